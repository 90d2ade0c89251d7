/-! a plan is laid -/
theorem takes_copy (F : Nat) : ∀ m x (stones kept done rows : Int32) (told touches has old_ beside slot : Nat → Int32), x + m = 16 → ∀ f, m < f → ∃ told' touches' old' : Nat → Int32,
    jl_loop11 (bX10_takes_2 F) f (nI x) stones kept done rows told touches has old_ beside slot = lX10_takes_112 F F 0 (told' 0 * told' 1) kept done rows told' touches' (upd (upd has 0 (has 2)) 1 ((upd has 0 (has 2)) 3)) old' beside slot ∧
    (∀ j, x ≤ j → j < 16 → touches' j = vp_nar .boolean (touches (16 + j))) ∧ (∀ j, x ≤ j → j < 9 → old' j = old_ (9 + j)) ∧ (∀ j, x ≤ j → j < 4 → told' j = told (4 + j)) ∧ (∀ j, j < x → touches' j = touches j) ∧ (∀ j, j < x → old' j = old_ j) ∧ (∀ j, j < x → told' j = told j) := by
  intro m
  induction m with
  | zero =>
    intro x stones kept done rows told touches has old_ beside slot hx f hf
    obtain ⟨f', rfl⟩ : ∃ f', f = f' + 1 := ⟨f - 1, by omega⟩
    refine ⟨told, touches, old_, ?_, fun j h1 h2 => by omega, fun j h1 h2 => by omega, fun j h1 h2 => by omega, fun _ _ => rfl, fun _ _ => rfl, fun _ _ => rfl⟩
    rw [jl_loop11_s]; unfold bX10_takes_2
    rw [if_pos (by rw [(show (16 : Int32) = nI 16 from rfl), nI_leI (by omega) (by omega)]; omega)]
    simp only [jl_let_eq, t0, t1, t2, t3]
  | succ m ih =>
    intro x stones kept done rows told touches has old_ beside slot hx f hf
    obtain ⟨f', rfl⟩ : ∃ f', f = f' + 1 := ⟨f - 1, by omega⟩
    have i16 : (16 : Int32) + nI x = nI (16 + x) := nI_add 16 x
    have i9 : (9 : Int32) + nI x = nI (9 + x) := nI_add 9 x
    have i4 : (4 : Int32) + nI x = nI (4 + x) := nI_add 4 x
    have hone : nI x + Int32.ofInt 1 = nI (x + 1) := nI_add x 1
    obtain ⟨told', touches', old', h1, h2, h3, h4, h5, h6, h7⟩ := ih (x + 1) stones kept done rows (if 4 ≤ x then told else upd told x (told (4 + x))) (upd touches x (vp_nar .boolean (touches (16 + x)))) has (if 9 ≤ x then old_ else upd old_ x (old_ (9 + x))) beside slot (by omega) f' (by omega)
    refine ⟨told', touches', old', ?_, ?_, ?_, ?_, ?_, ?_, ?_⟩
    · rw [jl_loop11_s]
      generalize jl_loop11 (bX10_takes_2 F) f' = K at h1 ⊢
      unfold bX10_takes_2
      have gx : ∀ n, x < n → ¬ (nI x < 0 ∨ n ≤ x) := by
        intro n hn
        rintro (q | q)
        · exact nI_pos (by omega) q
        · omega
      have gk : ∀ k n, k + x < n → k < 100 → ¬ (nI (k + x) < 0 ∨ n ≤ k + x) := by
        intro k n hn hk
        rintro (q | q)
        · exact nI_pos (by omega) q
        · omega
      have e44 : fX10_takes_44 F K (nI x) stones kept done rows told (upd touches x (vp_nar .boolean (touches (16 + x)))) has (if 9 ≤ x then old_ else upd old_ x (old_ (9 + x))) beside slot = K (nI (x + 1)) stones kept done rows (if 4 ≤ x then told else upd told x (told (4 + x))) (upd touches x (vp_nar .boolean (touches (16 + x)))) has (if 9 ≤ x then old_ else upd old_ x (old_ (9 + x))) beside slot := by
        unfold fX10_takes_44
        simp only [jl_let_eq]
        rw [hone, i4, nI_clamp (by omega), nI_clamp (by omega)]
        by_cases h4' : 4 ≤ x
        · rw [if_pos (by rw [(show (4 : Int32) = nI 4 from rfl), nI_leI (by omega) (by omega)]; omega), if_pos h4']
        · rw [if_neg (by rw [(show (4 : Int32) = nI 4 from rfl), nI_leI (by omega) (by omega)]; omega), if_neg h4', if_neg (gk 4 8 (by omega) (by omega)), if_neg (gx 8 (by omega))]
      rw [if_neg (by rw [(show (16 : Int32) = nI 16 from rfl), nI_leI (by omega) (by omega)]; omega), i16, nI_clamp (by omega), nI_clamp (by omega), if_neg (gk 16 32 (by omega) (by omega)), if_neg (gx 32 (by omega))]
      simp only [jl_let_eq]
      rw [i9, nI_clamp (by omega)]
      rw [← h1, ← e44]
      by_cases h9 : 9 ≤ x
      · rw [if_pos (by rw [(show (9 : Int32) = nI 9 from rfl), nI_leI (by omega) (by omega)]; omega), if_pos h9]
      · rw [if_neg (by rw [(show (9 : Int32) = nI 9 from rfl), nI_leI (by omega) (by omega)]; omega), if_neg h9, if_neg (gk 9 18 (by omega) (by omega)), if_neg (gx 18 (by omega))]
    · intro j j1 j2
      by_cases e : j = x
      · rw [e, h5 x (by omega), upd_s rfl]
      · rw [h2 j (by omega) j2, upd_n (by omega)]
    · intro j j1 j2
      by_cases e : j = x
      · rw [e, h6 x (by omega), if_neg (by omega), upd_s rfl]
      · rw [h3 j (by omega) j2]
        by_cases h9 : 9 ≤ x
        · rw [if_pos h9]
        · rw [if_neg h9, upd_n (by omega)]
    · intro j j1 j2
      by_cases e : j = x
      · rw [e, h7 x (by omega), if_neg (by omega), upd_s rfl]
      · rw [h4 j (by omega) j2]
        by_cases h9 : 4 ≤ x
        · rw [if_pos h9]
        · rw [if_neg h9, upd_n (by omega)]
    · intro j hj
      rw [h5 j (by omega), upd_n (by omega)]
    · intro j hj
      rw [h6 j (by omega)]
      by_cases h9 : 9 ≤ x
      · rw [if_pos h9]
      · rw [if_neg h9, upd_n (by omega)]
    · intro j hj
      rw [h7 j (by omega)]
      by_cases h9 : 4 ≤ x
      · rw [if_pos h9]
      · rw [if_neg h9, upd_n (by omega)]
/-- a new wall stands in the first slot -/
theorem takes_slot (F : Nat) {n : Nat} (hn : n ≤ 9) : ∀ m x (kept done rows : Int32) (told touches has old_ beside slot : Nat → Int32), x + m = 20 → ∀ f, m < f → ∃ slot' : Nat → Int32,
    jl_loop11 (bX10_takes_217 F) f (nI x) (nI n) kept done rows told touches has old_ beside slot = some (nI n, 0, 0, 0, told, touches, has, old_, beside, slot') ∧ (∀ j, x ≤ j → j < 20 → slot' j = if j < n then old_ j else 0) ∧ ∀ j, j < x → slot' j = slot j := by
  intro m
  induction m with
  | zero =>
    intro x kept done rows told touches has old_ beside slot hx f hf
    obtain ⟨f', rfl⟩ : ∃ f', f = f' + 1 := ⟨f - 1, by omega⟩
    refine ⟨slot, ?_, fun j h1 h2 => by omega, fun _ _ => rfl⟩
    rw [jl_loop11_s]; unfold bX10_takes_217
    rw [if_pos (by rw [(show (20 : Int32) = nI 20 from rfl), nI_leI (by omega) (by omega)]; omega)]
  | succ m ih =>
    intro x kept done rows told touches has old_ beside slot hx f hf
    obtain ⟨f', rfl⟩ : ∃ f', f = f' + 1 := ⟨f - 1, by omega⟩
    have hone : nI x + Int32.ofInt 1 = nI (x + 1) := nI_add x 1
    have g246 : ∀ (K : Int32 → Int32 → Int32 → Int32 → Int32 → (Nat → Int32) → (Nat → Int32) → (Nat → Int32) → (Nat → Int32) → (Nat → Int32) → (Nat → Int32) → Option (Int32 × Int32 × Int32 × Int32 × (Nat → Int32) × (Nat → Int32) × (Nat → Int32) × (Nat → Int32) × (Nat → Int32) × (Nat → Int32))) v, fX10_takes_246 F K (nI x) v (nI x) (nI n) kept done rows told touches has old_ beside slot = K (nI (x + 1)) (nI n) kept done rows told touches has old_ beside (upd slot x v) := by
      intro K v
      unfold fX10_takes_246
      rw [nI_clamp (by omega), if_neg (by
        rintro (q | q)
        · exact nI_pos (by omega) q
        · omega)]
      simp only [jl_let_eq]
      rw [hone]
    obtain ⟨slot', h1, h2, h3⟩ := ih (x + 1) kept done rows told touches has old_ beside (upd slot x (if x < n then old_ x else 0)) (by omega) f' (by omega)
    refine ⟨slot', ?_, ?_, ?_⟩
    · rw [jl_loop11_s]
      generalize jl_loop11 (bX10_takes_217 F) f' = K at h1 ⊢
      unfold bX10_takes_217
      rw [if_neg (by rw [(show (20 : Int32) = nI 20 from rfl), nI_leI (by omega) (by omega)]; omega), g246, g246, nI_clamp (by omega)]
      by_cases e : x < n
      · rw [if_neg (by rw [nI_leI (by omega) (by omega)]; omega), if_neg (by
          rintro (q | q)
          · exact nI_pos (by omega) q
          · omega), ← h1, if_pos e]
      · rw [if_pos (by rw [nI_leI (by omega) (by omega)]; omega), ← h1, if_neg e]
    · intro j j1 j2
      by_cases e : j = x
      · rw [e, h3 x (by omega), upd_s rfl]
      · exact h2 j (by omega) j2
    · intro j hj
      rw [h3 j (by omega), upd_n (by omega)]
