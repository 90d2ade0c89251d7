/-! a plan is laid: old stones that clash, the stones beside, the memory cleared -/
theorem adj_pr_b : ((List.range 10).all fun C => (List.range 9).all fun s => (List.range 9).all fun t => !decide (1 ≤ C) || (decide (((nI s / nI C - nI t / nI C) * (nI s / nI C - nI t / nI C) + (nI s - nI s / nI C * nI C - (nI t - nI t / nI C * nI C)) * (nI s - nI s / nI C * nI C - (nI t - nI t / nI C * nI C))) = 1) == adj C s t)) = true := by decide +kernel
theorem adj_pr {C s t : Nat} (h1 : 1 ≤ C) (h9 : C ≤ 9) (hs : s < 9) (ht : t < 9) : (((nI s / nI C - nI t / nI C) * (nI s / nI C - nI t / nI C) + (nI s - nI s / nI C * nI C - (nI t - nI t / nI C * nI C)) * (nI s - nI s / nI C * nI C - (nI t - nI t / nI C * nI C))) = 1) ↔ adj C s t = true := by
  have h := adj_pr_b
  rw [List.all_eq_true] at h
  have h := h C (List.mem_range.mpr (by omega))
  rw [List.all_eq_true] at h
  have h := h s (List.mem_range.mpr (by omega))
  rw [List.all_eq_true] at h
  have h := h t (List.mem_range.mpr (by omega))
  rw [decide_eq_true h1, Bool.not_true, Bool.false_or, beq_iff_eq] at h
  rw [← h, decide_eq_true_eq]
theorem adj_four_b : ((List.range 10).all fun C => (List.range 9).all fun s => (List.range 9).all fun t => !decide (1 ≤ C) || (adj C s t == ((decide (t = s + 1) && decide (s % C + 1 < C)) || (decide (t = s + C) || ((decide (s = t + 1) && decide (t % C + 1 < C)) || decide (s = t + C)))))) = true := by decide +kernel
theorem adj_four {C s t : Nat} (h1 : 1 ≤ C) (h9 : C ≤ 9) (hs : s < 9) (ht : t < 9) : adj C s t = true ↔ (t = s + 1 ∧ s % C + 1 < C) ∨ t = s + C ∨ (s = t + 1 ∧ t % C + 1 < C) ∨ s = t + C := by
  have h := adj_four_b
  rw [List.all_eq_true] at h
  have h := h C (List.mem_range.mpr (by omega))
  rw [List.all_eq_true] at h
  have h := h s (List.mem_range.mpr (by omega))
  rw [List.all_eq_true] at h
  have h := h t (List.mem_range.mpr (by omega))
  rw [decide_eq_true h1, Bool.not_true, Bool.false_or, beq_iff_eq] at h
  rw [h]
  simp only [Bool.or_eq_true, Bool.and_eq_true, decide_eq_true_eq]
/-- two colours beside each other are well -/
def awB (g : JP) (a b : Nat) : Bool := decide (a = 0) || (decide (b = 0) || (decide (a = 9) || (decide (b = 9) || pT g a b)))
theorem awB_comm {g : JP} (hg : GOK g) (a b : Nat) : awB g a b = awB g b a := by
  unfold awB
  rw [hg.2.2.2.2.2.1 a b]
  cases decide (a = 0) <;> cases decide (b = 0) <;> cases decide (a = 9) <;> cases decide (b = 9) <;> rfl
theorem areWell_ok {g : JP} {touches : Nat → Int32} (hT : ∀ a b, 1 ≤ a → a ≤ 3 → 1 ≤ b → b ≤ 3 → touches (16 + (4 * a + b)) = nI (pT g a b).toNat) {a b : Nat} (ha : a ≤ 3 ∨ a = 9) (hb : b ≤ 3 ∨ b = 9) : fX10_areWell touches (nI a) (nI b) = some (nI (awB g a b).toNat) := by
  unfold fX10_areWell awB
  rw [show (0 : Int32) = nI 0 from rfl, show (9 : Int32) = nI 9 from rfl]
  by_cases a0 : a = 0
  · subst a0; rw [if_pos rfl]; rfl
  · rw [if_neg (by rw [nI_eq (by omega) (by omega)]; exact a0)]
    by_cases b0 : b = 0
    · subst b0; rw [if_pos rfl]; simp; rfl
    · rw [if_neg (by rw [nI_eq (by omega) (by omega)]; exact b0)]
      by_cases a9 : a = 9
      · subst a9; rw [if_pos rfl]; simp; rfl
      · rw [if_neg (by rw [nI_eq (by omega) (by omega)]; exact a9)]
        by_cases b9 : b = 9
        · subst b9; rw [if_pos rfl]; simp; rfl
        · rw [if_neg (by rw [nI_eq (by omega) (by omega)]; exact b9)]
          have e : ((16 : Int32) + ((4 : Int32) * nI a)) + nI b = nI (16 + (4 * a + b)) := by
            rw [show (16 : Int32) = nI 16 from rfl, show (4 : Int32) = nI 4 from rfl, pk_mul, nI_add, nI_add, Nat.add_assoc]
          rw [e, nI_clamp (by omega), if_neg (by
            rintro (q | q)
            · exact nI_pos (by omega) q
            · omega), hT a b (by omega) (by omega) (by omega) (by omega), decide_eq_false a0, decide_eq_false b0, decide_eq_false a9, decide_eq_false b9]
          cases pT g a b <;> rfl
def okS (g : JP) (s : Nat) : Bool := (!decide (s % pC g + 1 < pC g) || awB g (pO g s) (pO g (s + 1))) && (!decide (s + pC g < pn g) || awB g (pO g s) (pO g (s + pC g)))
theorem sound_step {g : JP} (hg : GOK g) {told touches old_ : Nat → Int32} (h4 : told 4 = nI (pR g)) (hT : ∀ a b, 1 ≤ a → a ≤ 3 → 1 ≤ b → b ≤ 3 → touches (16 + (4 * a + b)) = nI (pT g a b).toNat) (hO : ∀ s, s < 9 → old_ (9 + s) = nI (pO g s)) {F s : Nat} (hs : s < pn g) (b : Bool) (k : Int32 → Int32 → Int32 → Option Int32) :
    bX10_isSound_11 F told touches old_ k (nI (pC g)) (nI b.toNat) (nI s) = k (nI (pC g)) (nI (b && okS g s).toNat) (nI (s + 1)) := by
  obtain ⟨hn1, hn9, hR9, hC9⟩ := gn hg
  have hP := hg.2.2.2.2.1
  have hO3 : ∀ t, pO g t ≤ 3 ∨ pO g t = 9 := fun t => by have := hg.2.2.2.2.2.2.2.1 t; omega
  have h1 := hg.2.1
  have h131 : ∀ v, fX10_isSound_131 F told touches old_ k (nI (pC g)) (nI s) v = k (nI (pC g)) v (nI (s + 1)) := by
    intro v
    unfold fX10_isSound_131
    rw [jl_let_eq, show nI s + Int32.ofInt 1 = nI (s + 1) from nI_add s 1]
  have i9 : (9 : Int32) + nI s = nI (9 + s) := nI_add 9 s
  have i10 : (10 : Int32) + nI s = nI (9 + (s + 1)) := by
    rw [show (10 : Int32) = nI 10 from rfl, nI_add, show 10 + s = 9 + (s + 1) by omega]
  have i9C : nI (9 + s) + nI (pC g) = nI (9 + (s + pC g)) := by rw [nI_add, Nat.add_assoc]
  have gd : ∀ j, j < 18 → ¬ (nI j < 0 ∨ 18 ≤ j) := by
    rintro j hj (q | q)
    · exact nI_pos (by omega) q
    · omega
  have h94 : ∀ dn : Bool, (dn = true → s + pC g < pn g) → fX10_isSound_94 F told touches old_ k (nI (pC g)) (nI s) (nI dn.toNat) = k (nI (pC g)) (nI (!dn || awB g (pO g s) (pO g (s + pC g))).toNat) (nI (s + 1)) := by
    intro dn hd
    unfold fX10_isSound_94 fX10_isSound_126 fX10_isSound_130
    rw [h131, h131]
    cases dn with
    | false => rw [if_f]; rfl
    | true =>
      have := hd rfl
      rw [if_t, i9, i9C, nI_clamp (by omega), nI_clamp (by omega), if_neg (gd _ (by omega)), if_neg (gd _ (by omega)), hO s (by omega), hO (s + pC g) (by omega), areWell_ok hT (hO3 _) (hO3 _), Option.bind_some]
      cases awB g (pO g s) (pO g (s + pC g)) <;> rfl
  have h58 : ∀ rt dn : Bool, (rt = true → s + 1 < 9) → (dn = true → s + pC g < pn g) → fX10_isSound_58 F told touches old_ k (nI (pC g)) (nI b.toNat) (nI s) (nI rt.toNat) (nI dn.toNat) = k (nI (pC g)) (nI (b && ((!rt || awB g (pO g s) (pO g (s + 1))) && (!dn || awB g (pO g s) (pO g (s + pC g))))).toNat) (nI (s + 1)) := by
    intro rt dn hr hd
    unfold fX10_isSound_58 fX10_isSound_130
    rw [h131, h94 dn hd]
    cases b with
    | false => rw [if_f]; rfl
    | true =>
      rw [if_t]
      cases rt with
      | false => rw [if_f]; rfl
      | true =>
        have := hr rfl
        rw [if_t, i9, i10, nI_clamp (by omega), nI_clamp (by omega), if_neg (gd _ (by omega)), if_neg (gd _ (by omega)), hO s (by omega), hO (s + 1) (by omega), areWell_ok hT (hO3 _) (hO3 _), Option.bind_some]
        cases awB g (pO g s) (pO g (s + 1)) <;> rfl
  have h37 : ∀ rt : Bool, (rt = true → s + 1 < 9) → fX10_isSound_37 F told touches old_ k (nI (pC g)) (nI b.toNat) (nI s) (nI rt.toNat) = k (nI (pC g)) (nI (b && ((!rt || awB g (pO g s) (pO g (s + 1))) && (!decide (s + pC g < pn g) || awB g (pO g s) (pO g (s + pC g))))).toNat) (nI (s + 1)) := by
    intro rt hr
    unfold fX10_isSound_37
    rw [t4, h4, pk_mul, nI_add]
    by_cases e : s + pC g < pn g
    · rw [if_neg (by rw [nI_leI (by unfold pn at hn9; omega) (by omega)]; show ¬ pn g ≤ _; omega), show (1 : Int32) = nI true.toNat from rfl, h58 rt true hr (fun _ => e), decide_eq_true e]
    · rw [if_pos (by rw [nI_leI (by unfold pn at hn9; omega) (by omega)]; show pn g ≤ _; omega), show (0 : Int32) = nI false.toNat from rfl, h58 rt false hr (fun h => by cases h), decide_eq_false e]
  unfold bX10_isSound_11
  have hrem : nI s - nI s / nI (pC g) * nI (pC g) = nI (s % pC g) := pk_rem (by omega) (by omega) (by omega)
  have hmod := Nat.mod_lt s (show 0 < pC g by omega)
  have hrow : s % pC g + 1 < pC g → s + 1 < pn g := by
    intro h
    have e1 := Nat.div_add_mod s (pC g)
    have hq : s / pC g < pR g := by
      rw [Nat.div_lt_iff_lt_mul (by omega)]; exact hs
    have := Nat.mul_le_mul_left (pC g) (show s / pC g + 1 ≤ pR g by omega)
    rw [Nat.mul_succ, Nat.mul_comm (pC g) (pR g)] at this
    show s + 1 < pR g * pC g
    omega
  rw [t4, h4, pk_mul, if_neg (by rw [nI_leI (by unfold pn at hn9; omega) (by omega)]; show ¬ pn g ≤ s; omega), if_neg (by rw [show (0 : Int32) = nI 0 from rfl, nI_eq (by omega) (by omega)]; omega), hrem, show nI (s % pC g) + (1 : Int32) = nI (s % pC g + 1) from nI_add _ 1]
  unfold okS
  by_cases e : s % pC g + 1 < pC g
  · rw [if_neg (by rw [nI_leI (by omega) (by omega)]; omega), show (1 : Int32) = nI true.toNat from rfl, h37 true (fun _ => by have := hrow e; omega), decide_eq_true e]
  · rw [if_pos (by rw [nI_leI (by omega) (by omega)]; omega), show (0 : Int32) = nI false.toNat from rfl, h37 false (fun h => by cases h), decide_eq_false e]
theorem sound_iff {g : JP} (hg : GOK g) : jall (okS g) (pn g) = jall (fun s => decide (pO g s = 0) || (decide (pO g s = 9) || wellA g (pO g) s (pO g s))) (pn g) := by
  obtain ⟨hn1, hn9, hR9, hC9⟩ := gn hg
  have h1 := hg.2.1
  apply Bool.eq_iff_iff.mpr
  rw [jall_iff, jall_iff]
  have hw : ∀ s, (decide (pO g s = 0) || (decide (pO g s = 9) || wellA g (pO g) s (pO g s))) = true ↔ ∀ t, t < pn g → adj (pC g) s t = true → awB g (pO g s) (pO g t) = true := by
    intro s
    unfold wellA
    simp only [Bool.or_eq_true, decide_eq_true_eq, jall_iff, wf, Bool.not_eq_true', awB]
    constructor
    · rintro (h | h | h) t ht ha
      · exact Or.inl h
      · exact Or.inr (Or.inr (Or.inl h))
      · rcases h t ht with q | q | q | q
        · rw [ha] at q; cases q
        · exact Or.inr (Or.inl q)
        · exact Or.inr (Or.inr (Or.inr (Or.inl q)))
        · exact Or.inr (Or.inr (Or.inr (Or.inr q)))
    · intro h
      by_cases e0 : pO g s = 0
      · exact Or.inl e0
      · by_cases e9 : pO g s = 9
        · exact Or.inr (Or.inl e9)
        · refine Or.inr (Or.inr (fun t ht => ?_))
          cases ha : adj (pC g) s t with
          | false => exact Or.inl rfl
          | true =>
            rcases h t ht ha with q | q | q | q | q
            · exact absurd q e0
            · exact Or.inr (Or.inl q)
            · exact absurd q e9
            · exact Or.inr (Or.inr (Or.inl q))
            · exact Or.inr (Or.inr (Or.inr q))
  have hrow : ∀ s, s < pn g → s % pC g + 1 < pC g → s + 1 < pn g := by
    intro s hs h
    have e1 := Nat.div_add_mod s (pC g)
    have hq : s / pC g < pR g := by
      rw [Nat.div_lt_iff_lt_mul (by omega)]; exact hs
    have := Nat.mul_le_mul_left (pC g) (show s / pC g + 1 ≤ pR g by omega)
    rw [Nat.mul_succ, Nat.mul_comm (pC g) (pR g)] at this
    show s + 1 < pR g * pC g
    omega
  have hok : ∀ s, okS g s = true ↔ (s % pC g + 1 < pC g → awB g (pO g s) (pO g (s + 1)) = true) ∧ (s + pC g < pn g → awB g (pO g s) (pO g (s + pC g)) = true) := by
    intro s
    unfold okS
    simp only [Bool.and_eq_true, Bool.or_eq_true, Bool.not_eq_true', decide_eq_false_iff_not]
    constructor
    · rintro ⟨a, b⟩
      exact ⟨fun h => a.resolve_left (fun q => q h), fun h => b.resolve_left (fun q => q h)⟩
    · rintro ⟨a, b⟩
      exact ⟨(Classical.em _).elim (fun h => Or.inr (a h)) Or.inl, (Classical.em _).elim (fun h => Or.inr (b h)) Or.inl⟩
  constructor
  · intro h s hs
    rw [hw]
    intro t ht ha
    rcases (adj_four h1 hC9 (by omega) (by omega)).mp ha with ⟨rfl, q⟩ | rfl | ⟨rfl, q⟩ | rfl
    · exact ((hok s).mp (h s hs)).1 q
    · exact ((hok s).mp (h s hs)).2 ht
    · rw [awB_comm hg]; exact ((hok t).mp (h t ht)).1 q
    · rw [awB_comm hg]; exact ((hok t).mp (h t ht)).2 hs
  · intro h s hs
    rw [hok]
    refine ⟨fun q => ?_, fun q => ?_⟩
    · have := hrow s hs q
      exact (hw s).mp (h s hs) (s + 1) this ((adj_four h1 hC9 (by omega) (by omega)).mpr (Or.inl ⟨rfl, q⟩))
    · exact (hw s).mp (h s hs) (s + pC g) q ((adj_four h1 hC9 (by omega) (by omega)).mpr (Or.inr (Or.inl rfl)))
theorem sound_ok {g : JP} (hg : GOK g) {told touches old_ : Nat → Int32} (h4 : told 4 = nI (pR g)) (h5 : told 5 = nI (pC g)) (hT : ∀ a b, 1 ≤ a → a ≤ 3 → 1 ≤ b → b ≤ 3 → touches (16 + (4 * a + b)) = nI (pT g a b).toNat) (hO : ∀ s, s < 9 → old_ (9 + s) = nI (pO g s)) {F : Nat} (hF : 10 ≤ F) : fX10_isSound F told touches old_ = some (nI (jall (okS g) (pn g)).toNat) := by
  obtain ⟨hn1, hn9, hR9, hC9⟩ := gn hg
  unfold fX10_isSound lX10_isSound_11
  rw [jl_let_eq, t5, h5]
  have key : ∀ m s, s + m = pn g → ∀ f, m < f → jl_loop3 (bX10_isSound_11 F told touches old_) f (nI (pC g)) (nI (jall (okS g) s).toNat) (nI s) = some (nI (jall (okS g) (pn g)).toNat) := by
    intro m
    induction m with
    | zero =>
      intro s hs f hf
      have : s = pn g := by omega
      subst this
      obtain ⟨f', rfl⟩ : ∃ f', f = f' + 1 := ⟨f - 1, by omega⟩
      rw [jl_loop3_s]; unfold bX10_isSound_11
      rw [t4, h4, pk_mul, if_pos (by rw [nI_leI (by unfold pn at hn9; omega) (by omega)]; exact Nat.le_refl _)]
      cases jall (okS g) (pn g) <;> rfl
    | succ m ih =>
      intro s hs f hf
      obtain ⟨f', rfl⟩ : ∃ f', f = f' + 1 := ⟨f - 1, by omega⟩
      rw [jl_loop3_s, sound_step hg h4 hT hO (by omega)]
      exact ih (s + 1) (by omega) f' (by omega)
  exact key (pn g) 0 (by omega) F (by omega)
theorem nearN_step {C s u : Nat} (hu : u < 9) : nb 9 (fun t => decide (t < u) && adj C s t) ||| (if adj C s u = true then 2 ^ u else 0) = nb 9 (fun t => decide (t < u + 1) && adj C s t) := by
  have h2 : (if adj C s u = true then 2 ^ u else 0) < 2 ^ 9 := by
    split
    · exact Nat.pow_lt_pow_right (by omega) hu
    · omega
  refine nb_ext (Nat.or_lt_two_pow (nb_lt 9 _) h2) (fun i hi => ?_)
  rw [Nat.testBit_or, nb_tb, decide_eq_true hi, Bool.true_and]
  by_cases e : i = u
  · subst e
    rw [decide_eq_false (Nat.lt_irrefl i), decide_eq_true (Nat.lt_succ_self i)]
    cases adj C s i
    · simp
    · simp [Nat.testBit_two_pow]
  · have z : (if adj C s u = true then 2 ^ u else 0).testBit i = false := by
      split
      · rw [Nat.testBit_two_pow]; exact decide_eq_false (fun q => e q.symm)
      · exact Nat.zero_testBit i
    rw [z, Bool.or_false]
    have : decide (i < u) = decide (i < u + 1) := decide_eq_decide.mpr (by omega)
    rw [this]
theorem takes_in (F : Nat) {C n s : Nat} (h1 : 1 ≤ C) (hC : C ≤ 9) (hn : n ≤ 9) (hs : s < n) {told : Nat → Int32} (ht1 : told 1 = nI C) (K112 : Int32 → Int32 → Int32 → Int32 → Int32 → (Nat → Int32) → (Nat → Int32) → (Nat → Int32) → (Nat → Int32) → (Nat → Int32) → (Nat → Int32) → Option (Int32 × Int32 × Int32 × Int32 × (Nat → Int32) × (Nat → Int32) × (Nat → Int32) × (Nat → Int32) × (Nat → Int32) × (Nat → Int32))) (kept done rows : Int32) (touches has old_ slot : Nat → Int32) :
    ∀ m u (beside : Nat → Int32), u + m = n → beside s = nI (nb 9 (fun t => decide (t < u) && adj C s t)) → ∃ beside', (∀ f, m < f → jl_loop12 (bX10_takes_129 F K112) f (nI s) (nI u) (nI n) kept done rows told touches has old_ beside slot = K112 (nI (s + 1)) (nI n) kept done rows told touches has old_ beside' slot) ∧ beside' s = nI (nb 9 (fun t => decide (t < n) && adj C s t)) ∧ ∀ j, j ≠ s → beside' j = beside j := by
  intro m
  induction m with
  | zero =>
    intro u beside hu hb
    have : u = n := by omega
    subst this
    refine ⟨beside, fun f hf => ?_, hb, fun _ _ => rfl⟩
    obtain ⟨f', rfl⟩ : ∃ f', f = f' + 1 := ⟨f - 1, by omega⟩
    rw [jl_loop12_s]; unfold bX10_takes_129
    rw [if_pos (by rw [nI_leI (by omega) (by omega)]; omega), jl_let_eq, show nI s + Int32.ofInt 1 = nI (s + 1) from nI_add s 1]
  | succ m ih =>
    intro u beside hu hb
    obtain ⟨beside', r1, r2, r3⟩ := ih (u + 1) (upd beside s (nI (nb 9 (fun t => decide (t < u + 1) && adj C s t)))) (by omega) (upd_s rfl)
    refine ⟨beside', fun f hf => ?_, r2, fun j hj => by rw [r3 j hj, upd_n hj]⟩
    obtain ⟨f', rfl⟩ : ∃ f', f = f' + 1 := ⟨f - 1, by omega⟩
    have hr := r1 f' (by omega)
    rw [jl_loop12_s]
    generalize jl_loop12 (bX10_takes_129 F K112) f' = K at hr ⊢
    have h201 : ∀ x, fX10_takes_201 F K112 K (nI s) (nI u) (nI x) (nI (nb 9 (fun t => decide (t < u) && adj C s t))) (nI s) (nI n) kept done rows told touches has old_ beside slot = K (nI s) (nI (u + 1)) (nI n) kept done rows told touches has old_ (upd beside s (nI (nb 9 (fun t => decide (t < u) && adj C s t) ||| x))) slot := by
      intro x
      unfold fX10_takes_201
      rw [nI_clamp (by omega), if_neg (by
        rintro (q | q)
        · exact nI_pos (by omega) q
        · omega), jl_let_eq, jl_let_eq, ni_or, show nI u + Int32.ofInt 1 = nI (u + 1) from nI_add u 1]
    unfold bX10_takes_129
    have hC0 : ¬ nI C = 0 := by rw [show (0 : Int32) = nI 0 from rfl, nI_eq (by omega) (by omega)]; omega
    have hsh : (1 : Int32) <<< (nI u &&& 31) = nI (2 ^ u) := one_shl (by omega)
    rw [if_neg (by rw [nI_leI (by omega) (by omega)]; omega), t1, ht1, if_neg hC0, if_neg hC0, jl_let_eq, if_neg hC0, if_neg hC0, jl_let_eq, nI_clamp (by omega), if_neg (by
      rintro (q | q)
      · exact nI_pos (by omega) q
      · omega), hb, hsh, h201, show (0 : Int32) = nI 0 from rfl, h201]
    rw [← hr, ← nearN_step (by omega)]
    by_cases e : adj C s u = true
    · rw [if_pos ((adj_pr h1 hC (by omega) (by omega)).mpr e), if_pos e]
    · rw [if_neg (fun q => e ((adj_pr h1 hC (by omega) (by omega)).mp q)), if_neg e]
theorem takes_out (F : Nat) {C n : Nat} (h1 : 1 ≤ C) (hC : C ≤ 9) (hn : n ≤ 9) (hF : 10 ≤ F) {told : Nat → Int32} (ht1 : told 1 = nI C) (kept done rows : Int32) (touches has old_ slot : Nat → Int32) :
    ∀ m s (beside : Nat → Int32), s + m = n → (∀ j, j < s → beside j = nI (nb 9 (fun t => decide (t < n) && adj C j t))) → ∃ beside', (∀ f, m < f → jl_loop11 (bX10_takes_112 F) f (nI s) (nI n) kept done rows told touches has old_ beside slot = lX10_takes_217 F F 0 (nI n) kept done rows told touches has old_ beside' slot) ∧ ∀ j, j < n → beside' j = nI (nb 9 (fun t => decide (t < n) && adj C j t)) := by
  intro m
  induction m with
  | zero =>
    intro s beside hs hj
    refine ⟨beside, fun f hf => ?_, fun j h => hj j (by omega)⟩
    obtain ⟨f', rfl⟩ : ∃ f', f = f' + 1 := ⟨f - 1, by omega⟩
    rw [jl_loop11_s]; unfold bX10_takes_112
    rw [if_pos (by rw [nI_leI (by omega) (by omega)]; omega)]
  | succ m ih =>
    intro s beside hs hj
    have hz : nb 9 (fun t => decide (t < 0) && adj C s t) = 0 := nb_zero.mpr (fun i _ => by simp)
    have hin := fun K => takes_in F h1 hC hn (s := s) (by omega) ht1 K kept done rows touches has old_ slot n 0 (upd beside s 0) (by omega) (by rw [upd_s rfl, hz]; rfl)
    -- the row of stones beside does not depend on what comes behind
    obtain ⟨b1, -, q2, q3⟩ := hin (fun _ _ _ _ _ _ _ _ _ _ _ => none)
    obtain ⟨beside', r1, r2⟩ := ih (s + 1) (fun j => if j = s then nI (nb 9 (fun t => decide (t < n) && adj C s t)) else beside j) (by omega) (fun j h => by
      show (if j = s then _ else _) = _
      by_cases e : j = s
      · rw [if_pos e, e]
      · rw [if_neg e]; exact hj j (by omega))
    refine ⟨beside', fun f hf => ?_, r2⟩
    obtain ⟨f', rfl⟩ : ∃ f', f = f' + 1 := ⟨f - 1, by omega⟩
    have hr := r1 f' (by omega)
    rw [jl_loop11_s]
    generalize jl_loop11 (bX10_takes_112 F) f' = K at hr ⊢
    obtain ⟨b2, p1, p2, p3⟩ := hin K
    have hb2 : b2 = fun j => if j = s then nI (nb 9 (fun t => decide (t < n) && adj C s t)) else beside j := by
      funext j
      by_cases e : j = s
      · rw [if_pos e, e, p2]
      · rw [if_neg e, p3 j e, upd_n e]
    unfold bX10_takes_112
    rw [if_neg (by rw [nI_leI (by omega) (by omega)]; omega), nI_clamp (by omega), if_neg (by
      rintro (q | q)
      · exact nI_pos (by omega) q
      · omega), jl_let_eq]
    refine Eq.trans (p1 F (by omega)) ?_
    rw [hb2]; exact hr
theorem nar_b (b : Bool) : vp_nar .boolean (nI b.toNat) = nI b.toNat := by cases b <;> rfl
theorem takes_ok {g : JP} (hg : GOK g) {told touches has old_ : Nat → Int32} (h4 : told 4 = nI (pR g)) (h5 : told 5 = nI (pC g)) (h6 : told 6 = nI (pP g)) (hT : ∀ a b, 1 ≤ a → a ≤ 3 → 1 ≤ b → b ≤ 3 → touches (16 + (4 * a + b)) = nI (pT g a b).toNat) (hH : ∀ i, i < 2 → has (2 + i) = nI (nb 3 (fun j => pH g i (j + 1)))) (hO : ∀ s, s < 9 → old_ (9 + s) = nI (pO g s)) {F : Nat} (hF : 21 ≤ F) (stones kept done rows : Int32) (beside slot : Nat → Int32) :
    ∃ told' touches' has' old' beside' slot', fX10_takes F stones kept done rows told touches has old_ beside slot = some (nI (pn g), 0, 0, 0, told', touches', has', old', beside', slot') ∧ MR g (nI (pn g)) told' touches' has' old' beside' ∧ SW slot' 0 (pO g, [], 0) := by
  obtain ⟨hn1, hn9, hR9, hC9⟩ := gn hg
  obtain ⟨told', touches', old', a1, a2, a3, a4, -, -, -⟩ := takes_copy F 16 0 stones kept done rows told touches has old_ beside slot (by omega) F (by omega)
  have e0 : told' 0 = nI (pR g) := by rw [a4 0 (by omega) (by omega)]; exact h4
  have e1 : told' 1 = nI (pC g) := by rw [a4 1 (by omega) (by omega)]; exact h5
  have e2 : told' 2 = nI (pP g) := by rw [a4 2 (by omega) (by omega)]; exact h6
  obtain ⟨beside', b1, b2⟩ := takes_out F hg.2.1 hC9 hn9 (by omega) e1 kept done rows touches' (upd (upd has 0 (has 2)) 1 ((upd has 0 (has 2)) 3)) old' slot (pn g) 0 beside (by omega) (fun j hj => absurd hj (Nat.not_lt_zero j))
  obtain ⟨slot', c1, c2, -⟩ := takes_slot F hn9 20 0 kept done rows told' touches' (upd (upd has 0 (has 2)) 1 ((upd has 0 (has 2)) 3)) old' beside' slot (by omega) F (by omega)
  refine ⟨told', touches', upd (upd has 0 (has 2)) 1 ((upd has 0 (has 2)) 3), old', beside', slot', ?_, ⟨rfl, ⟨e0, e1, e2⟩, fun a b p1 p3 q1 q3 => ?_, fun i hi => ?_, fun s hs => ?_, fun s hs => b2 s hs⟩, fun s hs => ?_, fun i hi => absurd hi (Nat.not_lt_zero i), ?_, ?_⟩
  · unfold fX10_takes lX10_takes_2
    refine Eq.trans a1 ?_
    rw [e0, e1, pk_mul]
    unfold lX10_takes_112
    refine Eq.trans (b1 F (by omega)) ?_
    unfold lX10_takes_217
    exact c1
  · rw [a2 _ (by omega) (by omega), hT a b p1 p3 q1 q3, nar_b]
  · rcases (show i = 0 ∨ i = 1 by omega) with rfl | rfl
    · rw [upd_n (by omega), upd_s rfl]; exact hH 0 (by omega)
    · rw [upd_s rfl, upd_n (by omega)]; exact hH 1 (by omega)
  · rw [a3 s (by omega) hs, hO s hs]
  · rw [Nat.mul_zero, Nat.zero_add, c2 s (by omega) (by omega)]
    by_cases h : s < pn g
    · rw [if_pos h, a3 s (by omega) hs, hO s hs]
    · rw [if_neg h]
      show (0 : Int32) = nI (pO g s)
      rw [hg.2.2.2.2.2.2.2.2 s (by omega)]; rfl
  · show slot' (20 * 0 + 18) = nI 0
    rw [c2 _ (by omega) (by omega), if_neg (by omega)]; rfl
  · show slot' (20 * 0 + 19) = nI 0
    rw [c2 _ (by omega) (by omega), if_neg (by omega)]; rfl
theorem forget_ok (known : Nat → Int32) {F : Nat} (hF : 4097 ≤ F) : ∃ k', fX0_forget F known = some k' ∧ ∀ c, c < 4096 → k' c = 0 := by
  have key : ∀ m x (k : Nat → Int32), x + m = 4096 → ∃ k', (∀ f, m < f → jl_loop3 (bJ7_fill_53178_5 F 4096 0) f (nI x) (nI 4096) k = some k') ∧ (∀ c, x ≤ c → c < 4096 → k' c = 0) ∧ ∀ c, c < x → k' c = k c := by
    intro m
    induction m with
    | zero =>
      intro x k hx
      refine ⟨k, fun f hf => ?_, fun c a b => by omega, fun _ _ => rfl⟩
      obtain ⟨f', rfl⟩ : ∃ f', f = f' + 1 := ⟨f - 1, by omega⟩
      rw [jl_loop3_s]; unfold bJ7_fill_53178_5
      rw [if_pos (by rw [nI_leI (by omega) (by omega)]; omega)]
    | succ m ih =>
      intro x k hx
      obtain ⟨k', r1, r2, r3⟩ := ih (x + 1) (upd k x 0) (by omega)
      refine ⟨k', fun f hf => ?_, fun c a b => ?_, fun c a => by rw [r3 c (by omega), upd_n (by omega)]⟩
      · obtain ⟨f', rfl⟩ : ∃ f', f = f' + 1 := ⟨f - 1, by omega⟩
        have hr := r1 f' (by omega)
        rw [jl_loop3_s]
        generalize jl_loop3 (bJ7_fill_53178_5 F 4096 0) f' = K at hr ⊢
        unfold bJ7_fill_53178_5
        rw [if_neg (by rw [nI_leI (by omega) (by omega)]; omega), nI_clamp (by omega), if_neg (by
          rintro (q | q)
          · exact nI_pos (by omega) q
          · omega), jl_let_eq, jl_let_eq, show nI x + Int32.ofInt 1 = nI (x + 1) from nI_add x 1]
        exact hr
      · by_cases e : c = x
        · rw [e, r3 x (by omega), upd_s rfl]
        · exact r2 c (by omega) b
  obtain ⟨k', r1, r2, -⟩ := key 4096 0 known (by omega)
  refine ⟨k', ?_, fun c hc => r2 c (by omega) hc⟩
  unfold fX0_forget fJ7_fill_53178 lJ7_fill_53178_5
  rw [jl_let_eq]
  have := r1 F (by omega)
  rw [show (nI 0 : Int32) = 0 from rfl] at this
  rw [show (Int32.ofNat 4096 : Int32) = nI 4096 from rfl, this]; rfl
theorem WOK0 {g : JP} (hg : GOK g) : WOK g (pO g, [], 0) := by
  have hP := hg.2.2.2.2.1
  have hO := hg.2.2.2.2.2.2.2.1
  refine ⟨⟨fun s => by have := hO s; show pO g s ≤ 3 ∨ pO g s = 9; omega, fun s hs => hg.2.2.2.2.2.2.2.2 s hs, fun s => Iff.rfl⟩, Nat.zero_le 1, List.nodup_nil, fun s => ?_, fun s _ => rfl, fun s => hO s⟩
  show s ∈ ([] : List Nat) ↔ _
  constructor
  · intro h; cases h
  · rintro ⟨a, b⟩; exact absurd a b
theorem Mem0 {g : JP} {known : Nat → Int32} (h : ∀ c, c < 4096 → known c = 0) : MemOK g known := fun c hc => ⟨0, by decide, h c hc, Or.inl rfl⟩
set_option maxHeartbeats 2000000 in
theorem st_lay : St_lay Inv_ := by
  intro x_text_length x_text_bytes_ x_reader_at x_reader_first x_reader_second x_reader_stoneTold x_reader_paintTold x_wall_worn x_wall_turn x_wall_order x_wall_pastLength x_wall_heldLength x_wall_past_ x_wall_held_ x_row_length x_row_paintings_ x_game_known_ x_lot_above x_lot_below x_laid_rows x_laid_columns x_laid_paints x_laid_apart x_laid_paintsOf0 x_laid_paintsOf1 x_laid_old x_laid_shut x_laid_all x_laid_firstColumn x_laid_fitsAtFirst x_laid_paintingsOf0 x_laid_paintingsOf1 x_laid_ruledOut_ x_spare_rows x_spare_columns x_spare_paints x_spare_apart x_spare_paintsOf0 x_spare_paintsOf1 x_spare_old x_spare_shut x_spare_all x_spare_firstColumn x_spare_fitsAtFirst x_spare_paintingsOf0 x_spare_paintingsOf1 x_spare_ruledOut_ y_length y_at y_stones y_kept y_done y_rows y_frees y_fewest y_text_ y_told_ y_touches_ y_has_ y_old_ y_beside_ y_slot_ y_row_ y_free_ y_worth_ y_fore_ y_back_ y_got_
  intro hla hsp hI
  replace hI : InvC x_text_length x_text_bytes_ x_reader_at x_reader_first x_reader_second x_reader_stoneTold x_reader_paintTold x_wall_worn x_wall_turn x_wall_order x_wall_pastLength x_wall_heldLength x_wall_past_ x_wall_held_ x_row_length x_row_paintings_ x_game_known_ x_lot_above x_lot_below x_laid_rows x_laid_columns x_laid_paints x_laid_apart x_laid_paintsOf0 x_laid_paintsOf1 x_laid_old x_laid_shut x_laid_all x_laid_firstColumn x_laid_fitsAtFirst x_laid_paintingsOf0 x_laid_paintingsOf1 x_laid_ruledOut_ x_spare_rows x_spare_columns x_spare_paints x_spare_apart x_spare_paintsOf0 x_spare_paintsOf1 x_spare_old x_spare_shut x_spare_all x_spare_firstColumn x_spare_fitsAtFirst x_spare_paintingsOf0 x_spare_paintingsOf1 x_spare_ruledOut_ y_length y_at y_stones y_kept y_done y_rows y_frees y_fewest y_text_ y_told_ y_touches_ y_has_ y_old_ y_beside_ y_slot_ y_row_ y_free_ y_worth_ y_fore_ y_back_ y_got_ := hI
  obtain ⟨g, w, d, ps, e, ks, r, rs, len, hg, hIT, hXU, hXS, hMR, hIW, hIP, hIH, hIR, hMem⟩ := hI
  obtain ⟨hl, rfl, rfl, hb⟩ := hIT
  obtain ⟨rx, rm, h1, h2, h3⟩ := read_ok (L := (g, y_stones, y_beside_)) hl hb (FU_ge (n := 203) (by omega)) x_reader_at x_reader_first x_reader_second x_reader_stoneTold x_reader_paintTold x_spare_rows x_spare_columns x_spare_paints x_spare_apart x_spare_paintsOf0 x_spare_paintsOf1 x_spare_old x_spare_shut y_at y_got_ hMR
  obtain ⟨x0, x1, x2, x3, x4, x5, x6, x7, x8, x9, x10, x11, x12, x13⟩ := rx
  obtain ⟨y0, y1, y2, y3, y4, y5, y6⟩ := rm
  obtain ⟨h3, h4⟩ := h3
  replace h3 : x0 = y0 := h3
  subst h3
  rcases h4 with ⟨e4, g', st, pt, hD⟩ | ⟨⟨k, hk, e4⟩, hM⟩
  · replace e4 : x0 = -4 := e4
    replace hD : DR (g, y_stones, y_beside_) g' st pt x4 x5 x6 x7 x8 x9 x10 x11 x12 x13 y2 y3 y4 y5 := hD
    have hgd := hD.1
    have hXd := hD.2.1
    obtain ⟨d4, d5, d6, -⟩ := hD.2.2.2.2.1
    have hT := hD.2.2.2.2.2.1
    have hH := hD.2.2.2.2.2.2.1
    have hO := hD.2.2.2.2.2.2.2.1
    obtain ⟨al, fc, ft, p0, p1, ro, s1, s2⟩ := x_settle hgd hXd (F := FU) (FU_ge (by omega)) x_spare_all x_spare_firstColumn x_spare_fitsAtFirst x_spare_paintingsOf0 x_spare_paintingsOf1 x_spare_ruledOut_
    have c1 := x_clash hgd hXd s2 (F := FU) (FU_ge (by omega))
    have c2 := sound_ok hgd d4 d5 hT hO (F := FU) (FU_ge (by omega))
    rw [sound_iff hgd] at c2
    cases hj : jall (fun s => decide (pO g' s = 0) || (decide (pO g' s = 9) || wellA g' (pO g') s (pO g' s))) (pn g') with
    | false =>
      rw [hj] at c1 c2
      refine ⟨(-2, x1, x2, x3, x4, x5, x_wall_worn, x_wall_turn, x_wall_order, x_wall_pastLength, x_wall_heldLength, x_row_length, x_game_known_, x6, x7, x8, x9, x10, x11, x12, x13, al, fc, ft, p0, p1, ro, hla, hsp), (-2, y1, y_stones, y_kept, y_done, y_rows, y2, y3, y4, y5, y_beside_, y_slot_, y6), ?_, ?_, rfl, Or.inl ⟨rfl, rfl, ?_⟩⟩
      · unfold fX9_lay
        rw [h1, Option.bind_some]
        dsimp only
        rw [if_pos e4, s1, Option.bind_some]
        dsimp only
        rw [c1, Option.bind_some]; rfl
      · unfold fX10_lay
        rw [h2, Option.bind_some]
        dsimp only
        rw [if_pos e4, c2, Option.bind_some]; rfl
      · exact ⟨g, w, d, ps, e, ks, r, rs, len, hg, ⟨hl, rfl, rfl, hb⟩, hXU, hXS, hD.mr, hIW, hIP, hIH, hIR, hMem⟩
    | true =>
      rw [hj] at c1 c2
      obtain ⟨kn, f1, f2⟩ := forget_ok x_game_known_ (F := FU) (FU_ge (by omega))
      obtain ⟨told', touches', has', old', beside', slot', k1, k2, k3⟩ := takes_ok hgd d4 d5 d6 hT hH hO (F := FU) (FU_ge (by omega)) y_stones y_kept y_done y_rows y_beside_ y_slot_
      refine ⟨(nI (pn g'), x1, x2, x3, x4, x5, x12, 0, 0, 0, 0, 0, kn, x6, x7, x8, x9, x10, x11, x12, x13, al, fc, ft, p0, p1, ro, hsp, hla), (nI (pn g'), y1, nI (pn g'), 0, 0, 0, told', touches', has', old', beside', slot', y6), ?_, ?_, rfl, Or.inr ⟨rfl, rfl, ?_⟩⟩
      · unfold fX9_lay
        rw [h1, Option.bind_some]
        dsimp only
        rw [if_pos e4, s1, Option.bind_some]
        dsimp only
        rw [c1, Option.bind_some]
        unfold fX7_begin fX5_empty fX3_stones
        rw [f1, hXd.1, hXd.2.1, pk_mul]; rfl
      · unfold fX10_lay
        rw [h2, Option.bind_some]
        dsimp only
        rw [if_pos e4, c2, Option.bind_some, k1]; rfl
      · exact ⟨g', (pO g', [], 0), 0, ps, 0, ks, 0, rs, len, hgd, ⟨hl, rfl, rfl, hb⟩, hXd, s2, k2, ⟨WOK0 hgd, hXd.2.2.2.2.2.2.1, rfl, rfl, k3⟩, ⟨by omega, rfl, rfl, fun i hi => absurd hi (Nat.not_lt_zero i)⟩, ⟨by omega, rfl, rfl, fun i hi => absurd hi (Nat.not_lt_zero i)⟩, ⟨by omega, rfl, rfl, fun i hi => absurd hi (Nat.not_lt_zero i)⟩, Mem0 f2⟩
  · replace e4 : x0 = nI k := e4
    have ne : ¬ x0 = -4 := by
      rw [e4]
      intro q
      have := congrArg Int32.toInt q
      rw [nI_toInt (by omega), show ((-4 : Int32)).toInt = -4 from by decide] at this
      omega
    refine ⟨(-2, x1, x2, x3, x4, x5, x_wall_worn, x_wall_turn, x_wall_order, x_wall_pastLength, x_wall_heldLength, x_row_length, x_game_known_, x6, x7, x8, x9, x10, x11, x12, x13, x_spare_all, x_spare_firstColumn, x_spare_fitsAtFirst, x_spare_paintingsOf0, x_spare_paintingsOf1, x_spare_ruledOut_, hla, hsp), (-2, y1, y_stones, y_kept, y_done, y_rows, y2, y3, y4, y5, y_beside_, y_slot_, y6), ?_, ?_, rfl, Or.inl ⟨rfl, rfl, ?_⟩⟩
    · unfold fX9_lay
      rw [h1, Option.bind_some]
      dsimp only
      rw [if_neg ne]
    · unfold fX10_lay
      rw [h2, Option.bind_some]
      dsimp only
      rw [if_neg ne]
    · exact ⟨g, w, d, ps, e, ks, r, rs, len, hg, ⟨hl, rfl, rfl, hb⟩, hXU, hXS, hM, hIW, hIP, hIH, hIR, hMem⟩
