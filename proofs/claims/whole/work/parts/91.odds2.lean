/-! the chance by lot: the reference -/
theorem takesBack_ok {g : JP} {slot : Nat → Int32} {w : JW} {s p : Nat} (hS : SW slot 11 (paintW w s p)) (hl : w.2.1.length < 9) (ht : w.2.2 ≤ 1) (hs : s < 9) (hz : w.1 s = 0) : ∃ slot', fX10_takesBack slot = some slot' ∧ SW slot' 11 w ∧ ∀ j, j < 220 → slot' j = slot j := by
  obtain ⟨h1, h2, h3, h4⟩ := hS
  have hlen : (paintW w s p).2.1.length = w.2.1.length + 1 := by simp [paintW]
  have e238 : slot 238 = nI (w.2.1.length + 1) := by rw [← hlen]; exact h3
  have e239 : slot 239 = nI (1 - w.2.2) := h4
  have eord : slot (229 + w.2.1.length) = nI s := by
    have := h2 w.2.1.length (by omega)
    rw [show 20 * 11 + 9 + w.2.1.length = 229 + w.2.1.length by omega] at this
    rw [this]; simp [paintW]
  have k1 : ((220 : Int32) + 18).toNatClampNeg = 238 := by decide
  have k2 : ((220 : Int32) + 19).toNatClampNeg = 239 := by decide
  have k3 : (220 : Int32) + 9 = nI 229 := by decide
  have n1 : ¬ (((220 : Int32) + 18) < 0 ∨ 240 ≤ 238) := by decide
  have n2 : ¬ (((220 : Int32) + 19) < 0 ∨ 240 ≤ 239) := by decide
  have e1 : nI (w.2.1.length + 1) - (1 : Int32) = nI w.2.1.length := nI_pred _
  have hg3 : upd slot 238 (nI w.2.1.length) 238 = nI w.2.1.length := upd_s rfl
  have a1 : nI 229 + nI w.2.1.length = nI (229 + w.2.1.length) := nI_add _ _
  have hg3o : upd slot 238 (nI w.2.1.length) (229 + w.2.1.length) = nI s := by
    rw [upd_n (by omega)]; exact eord
  have a2 : (220 : Int32) + nI s = nI (220 + s) := nI_add 220 s
  have hg7 : upd (upd slot 238 (nI w.2.1.length)) (220 + s) 0 239 = nI (1 - w.2.2) := by
    rw [upd_n (by omega), upd_n (by omega)]; exact e239
  have b1 : ¬ (nI (229 + w.2.1.length) < 0 ∨ 240 ≤ 229 + w.2.1.length) := by
    rintro (q | q)
    · exact nI_pos (by omega) q
    · omega
  have b2 : ¬ (nI (220 + s) < 0 ∨ 240 ≤ 220 + s) := by
    rintro (q | q)
    · exact nI_pos (by omega) q
    · omega
  have e2 : (1 : Int32) - nI (1 - w.2.2) = nI w.2.2 := by
    have := turn_1 (t := 1 - w.2.2) (by omega)
    rw [this]; congr 1; omega
  refine ⟨upd (upd (upd slot 238 (nI w.2.1.length)) (220 + s) 0) 239 (nI w.2.2), ?_, ⟨fun t ht9 => ?_, fun i hi => ?_, ?_, ?_⟩, fun j hj => ?_⟩
  · unfold fX10_takesBack
    rw [k1, k2, if_neg n1, if_neg n1, e238, e1, jl_let_eq, if_neg n1, hg3, k3, a1, nI_clamp (by omega), if_neg b1, hg3o, a2, nI_clamp (by omega), if_neg b2, jl_let_eq, if_neg n2, if_neg n2, hg7, e2, jl_let_eq]
  · show upd (upd (upd slot 238 _) (220 + s) 0) 239 _ (20 * 11 + t) = nI (w.1 t)
    rw [upd_n (by omega)]
    by_cases e : t = s
    · rw [upd_s (by omega), e, hz]; rfl
    · rw [upd_n (by omega), upd_n (by omega), h1 t ht9]
      show nI (upc w.1 s p t) = _
      unfold upc; rw [if_neg e]
  · show upd (upd (upd slot 238 _) (220 + s) 0) 239 _ (20 * 11 + 9 + i) = nI (w.2.1.getD i 0)
    rw [upd_n (by omega), upd_n (by omega), upd_n (by omega), h2 i (by omega)]
    show nI ((w.2.1 ++ [s]).getD i 0) = _
    simp only [List.getD_eq_getElem?_getD]
    rw [List.getElem?_append_left (by omega)]
  · show upd (upd (upd slot 238 _) (220 + s) 0) 239 _ (20 * 11 + 18) = nI w.2.1.length
    rw [upd_n (by omega), upd_n (by omega), upd_s (by omega)]
  · show upd (upd (upd slot 238 _) (220 + s) 0) 239 _ (20 * 11 + 19) = nI w.2.2
    rw [upd_s (by omega)]
  · show upd (upd (upd slot 238 _) (220 + s) 0) 239 _ j = _
    rw [upd_n (by omega), upd_n (by omega), upd_n (by omega)]
/-- sums along the reference's order -/
theorem ix_sm {g : JP} (hg : GOK g) {h : Nat → Nat → Nat} (hz : ∀ s p, pP g < p → h s p = 0) {k : Nat} : fb_sm (fun i => h (i / 3) (i % 3 + 1)) (3 * ((k + 1) / pP g) + (k + 1) % pP g) = fb_sm (fun i => h (i / 3) (i % 3 + 1)) (3 * (k / pP g) + k % pP g) + h (k / pP g) (k % pP g + 1) := by
  have h1 := hg.2.2.2.1
  have h3 := hg.2.2.2.2.1
  obtain ⟨i1, i2, i3, i4⟩ := ix_step (P := pP g) (k := k) (by omega)
  have hb : fb_sm (fun i => h (i / 3) (i % 3 + 1)) (3 * (k / pP g) + k % pP g + 1) = fb_sm (fun i => h (i / 3) (i % 3 + 1)) (3 * (k / pP g) + k % pP g) + h (k / pP g) (k % pP g + 1) := by
    rw [fb_sm_succ, show (3 * (k / pP g) + k % pP g) / 3 = k / pP g by omega, show (3 * (k / pP g) + k % pP g) % 3 = k % pP g by omega]
  rw [← hb]
  rcases Nat.lt_or_ge (k % pP g + 1) (pP g) with q | q
  · obtain ⟨a, b⟩ := i1 q
    rw [a, b]; rfl
  · obtain ⟨a, b⟩ := i2 (by omega)
    rw [a, b]
    obtain ⟨u, hu⟩ : ∃ u, 3 * (k / pP g + 1) + 0 = (3 * (k / pP g) + k % pP g + 1) + u := ⟨3 - (k % pP g + 1), by omega⟩
    rw [hu, fb_sm_split]
    have : ∀ j, j < u → h ((3 * (k / pP g) + k % pP g + 1 + j) / 3) ((3 * (k / pP g) + k % pP g + 1 + j) % 3 + 1) = 0 := by
      intro j hj
      exact hz _ _ (by omega)
    rw [fb_sm_cong this, fb_sm_const, Nat.mul_zero, Nat.add_zero]
theorem tv_hi {g : JP} (hg : GOK g) {c : Nat → Nat} {t : Nat} {val : Nat → Nat → Nat} : ∀ s p, pP g < p → tv g c t val s p = 0 := by
  intro s p hp
  unfold tv
  rw [if_neg]
  intro h
  unfold mayG at h
  rw [Bool.and_eq_true] at h
  have := (may_le hg h.2).2.1
  omega
theorem tot_ix {g : JP} (hg : GOK g) {c : Nat → Nat} {t : Nat} {val : Nat → Nat → Nat} : fb_sm (fun i => tv g c t val (i / 3) (i % 3 + 1)) (3 * pn g) = tot g c t val := by
  obtain ⟨hn1, hn9, -, -⟩ := gn hg
  unfold tot
  rw [sm27 (fun s p => tv g c t val s p)]
  obtain ⟨u, hu⟩ : ∃ u, 27 = 3 * pn g + u := ⟨27 - 3 * pn g, by omega⟩
  rw [hu, fb_sm_split]
  have : ∀ j, j < u → tv g c t val ((3 * pn g + j) / 3) ((3 * pn g + j) % 3 + 1) = 0 := by
    intro j hj
    unfold tv
    rw [if_neg]
    intro h
    unfold mayG at h
    rw [Bool.and_eq_true, decide_eq_true_eq] at h
    omega
  rw [fb_sm_cong this, fb_sm_const, Nat.mul_zero, Nat.add_zero]
theorem stuckNext_ok {g : JP} (hg : GOK g) {stones : Int32} {told touches has old beside slot : Nat → Int32} (hM : MR g stones told touches has old beside) {w : JW} (hW : WOK g w) (hS : SW slot 11 w) {F : Nat} (hF : 29 ≤ F) : ∃ slot', fX10_stuckNext F stones told touches has beside slot = some (lN (od1 g w.1 w.2.2), slot') ∧ SW slot' 11 w ∧ ∀ j, j < 220 → slot' j = slot j := by
  obtain ⟨hn1, hn9, -, -⟩ := gn hg
  have h1 := hg.2.2.2.1
  have h3 := hg.2.2.2.2.1
  have hlt : pn g * pP g ≤ 27 := Nat.mul_le_mul hn9 h3
  have hle := chC_le g w.1 w.2.2
  have hcm : CM = 80313433200 := rfl
  have ht := hW.2.1
  have hms := mays_ok hg hM hW.1.1 (k := 11) (by omega) hS hW.2.1 (F := F) (by omega)
  have k239 : ((239 : Int32)).toNatClampNeg = 239 := by decide
  have e239 : slot 239 = nI w.2.2 := hS.2.2.2
  by_cases h0 : chC g w.1 w.2.2 = 0
  · refine ⟨slot, ?_, hS, fun _ _ => rfl⟩
    unfold fX10_stuckNext od1
    rw [show (11 : Int32) = nI 11 from rfl, hms, Option.bind_some, h0, if_00, k239, e239, if_pos rfl]
    by_cases q : w.2.2 = 0
    · rw [if_pos (by rw [q]; rfl), if_pos q]; rfl
    · rw [if_neg (by rw [show (0 : Int32) = nI 0 from rfl, nI_eq (by omega) (by omega)]; exact q), if_neg q]; rfl
  · let val : Nat → Nat → Nat := fun s p => od0 g (upc w.1 s p) (1 - w.2.2)
    let h : Nat → Nat → Nat := fun s p => tv g w.1 w.2.2 val s p
    have hh : ∀ s p, pP g < p → h s p = 0 := tv_hi hg
    have hl27 : ∀ n, n ≤ 27 → fb_sm (fun i => h (i / 3) (i % 3 + 1)) n ≤ 27 := by
      intro n hn
      have := fb_sm_bound (f := fun i => h (i / 3) (i % 3 + 1)) (c := 1) (n := n) (fun k _ => by
        show tv g w.1 w.2.2 val (k / 3) (k % 3 + 1) ≤ 1
        unfold tv
        split
        · exact od0_le _ _ _
        · omega)
      omega
    have key : ∀ m k (sl : Nat → Int32), k + m = pn g * pP g → SW sl 11 w → (∀ j, j < 220 → sl j = slot j) → ∃ slot', (∀ f, m < f → jl_loop4 (bX10_stuckNext_35 F stones told touches has beside) f (nI (chC g w.1 w.2.2)) (lN (fb_sm (fun i => h (i / 3) (i % 3 + 1)) (3 * (k / pP g) + k % pP g))) (nI k) sl = some (lN (od1 g w.1 w.2.2), slot')) ∧ SW slot' 11 w ∧ ∀ j, j < 220 → slot' j = slot j := by
      intro m
      induction m with
      | zero =>
        intro k sl hk hSl hkp
        refine ⟨sl, fun f hf => ?_, hSl, hkp⟩
        obtain ⟨f', rfl⟩ : ∃ f', f = f' + 1 := ⟨f - 1, by omega⟩
        have e1 : k = pn g * pP g := by omega
        rw [jl_loop4_s]; unfold bX10_stuckNext_35
        rw [c2, hM.2.1.2.2, hM.1, pk_mul, if_pos (by rw [e1, nI_leI (by omega) (by omega)]; exact Nat.le_refl _), nI_l (by omega), if_neg (by rw [show (0 : Int64) = lN 0 from rfl, pk_lEQ (by omega) (by omega)]; exact h0), show (80313433200 : Int64) = lN CM from rfl, pk_lDiv (by omega) (by omega) (by omega), lN_mul, e1, Nat.mul_div_cancel _ (show 0 < pP g by omega), Nat.mul_mod_left, Nat.add_zero, tot_ix hg]
        unfold od1
        rw [if_neg h0]
      | succ m ih =>
        intro k sl hk hSl hkp
        obtain ⟨a1, a2, a3, a4, a5, a6⟩ := may_at hg hM hW hSl (k := k) (F := F) (by omega) (by omega)
        have hone : nI k + Int32.ofInt 1 = nI (k + 1) := nI_add k 1
        obtain ⟨-, -, i3, i4⟩ := ix_step (P := pP g) (k := k) (by omega)
        have hsm := ix_sm hg hh (k := k)
        have hat := mayI_at (g := g) (c := w.1) (t := w.2.2) (s := k / pP g) (p := k % pP g + 1) (by omega) (by omega)
        rw [Nat.add_sub_cancel] at hat
        have hpre : ∀ (E : Option (Int64 × (Nat → Int32))) (K : Int32 → Int64 → Int32 → (Nat → Int32) → Option (Int64 × (Nat → Int32))) (S : Nat), (if nI (mayI g w.1 w.2.2 (3 * (k / pP g) + k % pP g)).toNat = 0 then K (nI (chC g w.1 w.2.2)) (lN S) (nI (k + 1)) sl else ((fX10_paints sl (nI 11) (nI (k / pP g)) (nI (k % pP g + 1))).bind fun r19 => ((fX10_mays F stones told touches has beside r19 (nI 11)).bind fun r21 => (if r21 = 0 then (if (r19 (239 : Int32).toNatClampNeg) = 0 then fX10_stuckNext_124 F stones told touches has beside K (nI (chC g w.1 w.2.2)) (nI k) 1 (lN S) r19 else fX10_stuckNext_123 F stones told touches has beside K (nI (chC g w.1 w.2.2)) (nI k) (lN S) r19) else fX10_stuckNext_123 F stones told touches has beside K (nI (chC g w.1 w.2.2)) (nI k) (lN S) r19)))) = E → bX10_stuckNext_35 F stones told touches has beside K (nI (chC g w.1 w.2.2)) (lN S) (nI k) sl = E := by
          intro E K S hE
          unfold bX10_stuckNext_35
          rw [if_neg a4, if_neg a3, jl_let_eq, if_neg a3]
          simp only [jl_let_eq]
          rw [a2, a1, a6, Option.bind_some, hone]
          exact hE
        cases hm : mayG g w.1 w.2.2 (k / pP g) (k % pP g + 1) with
        | false =>
          obtain ⟨s', r1, r2, r3⟩ := ih (k + 1) sl (by omega) hSl hkp
          refine ⟨s', fun f hf => ?_, r2, r3⟩
          obtain ⟨f', rfl⟩ : ∃ f', f = f' + 1 := ⟨f - 1, by omega⟩
          have hr := r1 f' (by omega)
          rw [hsm] at hr
          have hh0 : h (k / pP g) (k % pP g + 1) = 0 := by
            show tv g w.1 w.2.2 val _ _ = 0
            unfold tv; rw [hm]; rfl
          rw [hh0, Nat.add_zero] at hr
          rw [jl_loop4_s]
          refine hpre _ _ _ ?_
          rw [hat, hm, if_f]; exact hr
        | true =>
          have hm2 := hm
          unfold mayG at hm2
          rw [Bool.and_eq_true, decide_eq_true_eq] at hm2
          obtain ⟨p1, p2', p3'⟩ := may_le hg hm2.2
          have hW' := hW.paint hg hm2.1 hm2.2
          have el : (paintW w (k / pP g) (k % pP g + 1)).2.1.length = w.2.1.length + 1 := by simp [paintW]
          have hl9 := hW'.len9 hg
          obtain ⟨s1, q1, q2, q3⟩ := paints_ok (k := 11) (p := k % pP g + 1) (by omega) hSl (by omega) hW.2.1 (show k / pP g < 9 by omega)
          have hms' := mays_ok hg hM hW'.1.1 (k := 11) (by omega) q2 hW'.2.1 (F := F) (by omega)
          obtain ⟨s2, t1, t2, t3⟩ := takesBack_ok (g := g) q2 (by omega) hW.2.1 (show k / pP g < 9 by omega) p3'
          obtain ⟨s', r1, r2, r3⟩ := ih (k + 1) s2 (by omega) t2 (fun j hj => by rw [t3 j hj, q3 j (by omega)]; exact hkp j hj)
          refine ⟨s', fun f hf => ?_, r2, r3⟩
          obtain ⟨f', rfl⟩ : ∃ f', f = f' + 1 := ⟨f - 1, by omega⟩
          have hr := r1 f' (by omega)
          rw [hsm] at hr
          have hh1 : h (k / pP g) (k % pP g + 1) = od0 g (upc w.1 (k / pP g) (k % pP g + 1)) (1 - w.2.2) := by
            show tv g w.1 w.2.2 val _ _ = _
            unfold tv; rw [if_pos hm]
          rw [hh1] at hr
          rw [jl_loop4_s]
          refine hpre _ _ _ ?_
          have e239' : s1 239 = nI (1 - w.2.2) := q2.2.2.2
          have hle' := chC_le g (paintW w (k / pP g) (k % pP g + 1)).1 (paintW w (k / pP g) (k % pP g + 1)).2.2
          rw [hat, hm, if_t, q1, Option.bind_some, hms', Option.bind_some, k239, e239']
          have hput : ∀ v : Nat, fX10_stuckNext_124 F stones told touches has beside (jl_loop4 (bX10_stuckNext_35 F stones told touches has beside) f') (nI (chC g w.1 w.2.2)) (nI k) (lN v) (lN (fb_sm (fun i => h (i / 3) (i % 3 + 1)) (3 * (k / pP g) + k % pP g))) s1 = jl_loop4 (bX10_stuckNext_35 F stones told touches has beside) f' (nI (chC g w.1 w.2.2)) (lN (fb_sm (fun i => h (i / 3) (i % 3 + 1)) (3 * (k / pP g) + k % pP g) + v)) (nI (k + 1)) s2 := by
            intro v
            generalize jl_loop4 (bX10_stuckNext_35 F stones told touches has beside) f' = L
            unfold fX10_stuckNext_124
            rw [jl_let_eq, t1, Option.bind_some, jl_let_eq, hone, lN_add]
          unfold od0 at hr
          by_cases z0 : chC g (paintW w (k / pP g) (k % pP g + 1)).1 (paintW w (k / pP g) (k % pP g + 1)).2.2 = 0
          · rw [z0, if_00]
            by_cases z1 : 1 - w.2.2 = 0
            · rw [if_pos (by rw [z1]; rfl)]
              rw [if_pos ⟨z0, z1⟩] at hr
              rw [← hr]; exact hput 1
            · rw [if_neg (by rw [show (0 : Int32) = nI 0 from rfl, nI_eq (by omega) (by omega)]; exact z1)]
              rw [if_neg (fun e => z1 e.2)] at hr
              rw [← hr]; exact hput 0
          · rw [if_neg (by rw [show (0 : Int32) = nI 0 from rfl, nI_eq (by omega) (by omega)]; exact z0)]
            rw [if_neg (fun e => z0 e.1)] at hr
            rw [← hr]; exact hput 0
    obtain ⟨s', r1, r2, r3⟩ := key (pn g * pP g) 0 slot (by omega) hS (fun _ _ => rfl)
    refine ⟨s', ?_, r2, r3⟩
    unfold fX10_stuckNext lX10_stuckNext_35
    rw [show (11 : Int32) = nI 11 from rfl, hms, Option.bind_some, if_neg (by rw [show (0 : Int32) = nI 0 from rfl, nI_eq (by omega) (by omega)]; exact h0)]
    have := r1 F (by omega)
    rw [Nat.zero_div, Nat.zero_mod] at this
    exact this
theorem odds_gcd {F : Nat} {stones p1 p2 : Int32} {told touches has beside slot : Nat → Int32} (N D : Nat) (hN : N < 2 ^ 63) (hD : D < 2 ^ 63) : ∀ n x y, y < 2 ^ n → n < 64 → x < 2 ^ 63 → 0 < Nat.gcd x y → ∀ f, 2 * n < f → jl_loop5 (bX10_odds_196 F stones told touches has beside p1 p2) f (lN N) (lN D) (lN x) (lN y) slot = some (if p2 = 0 then lN (N / Nat.gcd x y) else lN (D / Nat.gcd x y), slot) := by
  have stop : ∀ (K : Int64 → Int64 → Int64 → Int64 → (Nat → Int32) → Option (Int64 × (Nat → Int32))) (u : Nat), 0 < u → u < 2 ^ 63 → bX10_odds_196 F stones told touches has beside p1 p2 K (lN N) (lN D) (lN u) (lN 0) slot = some (if p2 = 0 then lN (N / u) else lN (D / u), slot) := by
    intro K u hu hu2
    unfold bX10_odds_196
    have e0 : ¬ lN u = 0 := by rw [show (0 : Int64) = lN 0 from rfl, pk_lEQ (by omega) (by omega)]; omega
    rw [if_pos (by rw [lgc0 (by omega)]), if_neg e0, if_neg e0, pk_lDiv hN hu hu2, pk_lDiv hD hu hu2]
    split <;> rfl
  have step : ∀ (K : Int64 → Int64 → Int64 → Int64 → (Nat → Int32) → Option (Int64 × (Nat → Int32))) (u v : Nat), u < 2 ^ 63 → 0 < v → v < 2 ^ 63 → bX10_odds_196 F stones told touches has beside p1 p2 K (lN N) (lN D) (lN u) (lN v) slot = K (lN N) (lN D) (lN v) (lN (u % v)) slot := by
    intro K u v hu hv hv2
    unfold bX10_odds_196
    rw [if_neg (by rw [lgc0 hv2]; omega), if_neg (by rw [show (0 : Int64) = lN 0 from rfl, pk_lEQ hv2 (by omega)]; omega)]
    simp only [jl_let_eq]
    rw [pk_lRem hu hv hv2]
  intro n
  induction n with
  | zero =>
    intro x y hy hn hx hg0 f hf
    obtain ⟨f', rfl⟩ : ∃ f', f = f' + 1 := ⟨f - 1, by omega⟩
    have : y = 0 := by omega
    subst this
    rw [Nat.gcd_zero_right] at hg0 ⊢
    rw [jl_loop5_s, stop _ _ hg0 hx]
  | succ n ih =>
    intro x y hy hn hx hg0 f hf
    obtain ⟨f', rfl⟩ : ∃ f', f = f' + 2 := ⟨f - 2, by omega⟩
    have hy63 : y < 2 ^ 63 := Nat.lt_of_lt_of_le hy (Nat.pow_le_pow_right (by omega) (by omega))
    rcases Nat.eq_zero_or_pos y with h0 | h0
    · subst h0
      rw [Nat.gcd_zero_right] at hg0 ⊢
      rw [jl_loop5_s, stop _ _ hg0 hx]
    · rw [jl_loop5_s, step _ _ _ hx h0 hy63, jl_loop5_s]
      have hr := Nat.mod_lt x h0
      rcases Nat.eq_zero_or_pos (x % y) with h1 | h1
      · rw [h1, stop _ _ h0 hy63]
        have : Nat.gcd x y = y := by rw [← gcd_step, h1, Nat.gcd_zero_right]
        rw [this]
      · have h2 := euc_half h0 h1
        rw [step _ _ _ hy63 h1 (by omega)]
        have := ih (x % y) (y % (x % y)) (by rw [Nat.pow_succ] at hy; omega) (by omega) (by omega) (by rw [gcd_step, gcd_step]; exact hg0) f' (by omega)
        rw [this, gcd_step, gcd_step]
theorem od1_le {g : JP} (c : Nat → Nat) (t : Nat) : od1 g c t ≤ CM := by
  unfold od1
  split
  · split
    · exact Nat.le_refl _
    · exact Nat.zero_le _
  · next h =>
    have h1 := tot_le (g := g) (c := c) (t := t) (val := fun s p => od0 g (upc c s p) (1 - t)) (fun s p => od0_le _ _ _)
    have h2 := CM_div (chC g c t) (by have := chC_le g c t; omega) (by omega)
    have h3 := Nat.mul_le_mul_right (CM / chC g c t) h1
    rw [h2] at h3; exact h3
theorem odds_fin {F : Nat} {stones p1 p2 : Int32} {told touches has beside slot : Nat → Int32} (hF : 200 ≤ F) {N D : Nat} (hN : N < 2 ^ 63) (hD : D < 2 ^ 63) (hD0 : 0 < D) : fX10_odds_188 F stones told touches has beside p1 p2 (lN N) (lN D) slot = some (if p2 = 0 then lN (N / Nat.gcd N D) else lN (D / Nat.gcd N D), slot) := by
  unfold fX10_odds_188 lX10_odds_196
  exact odds_gcd N D hN hD 63 N D hD (by omega) hN (Nat.gcd_pos_of_pos_right _ hD0) F (by omega)
theorem odds_m {g : JP} (hg : GOK g) {stones : Int32} {told touches has old beside slot : Nat → Int32} (hM : MR g stones told touches has old beside) {w : JW} (hW : WOK g w) (hS0 : SW slot 0 w) {n F : Nat} (hn : n ≤ 2) {p2 : Int32} (hp : isN p2 2 = true) (hF : 200 ≤ F) : ∃ slot', fX10_odds F stones told touches has beside slot (nI n) p2 = some (if p2 = 0 then lN (odN g w n / Nat.gcd (odN g w n) (odD g w n)) else lN (odD g w n / Nat.gcd (odN g w n) (odD g w n)), slot') ∧ ∀ j, j < 220 → slot' j = slot j := by
  obtain ⟨hn1, hn9, -, -⟩ := gn hg
  have h1 := hg.2.2.2.1
  have h3 := hg.2.2.2.2.1
  have hlt : pn g * pP g ≤ 27 := Nat.mul_le_mul hn9 h3
  have hle := chC_le g w.1 w.2.2
  have hcm : CM = 80313433200 := rfl
  have ht := hW.2.1
  obtain ⟨s1, c1, cp⟩ := copies_ok (slot := slot) (a := 0) (b := 11) (F := F) (by omega) (by omega) (by omega) (by omega)
  have hS := hS0.cp (hW.len9 hg) cp
  have hS1 : SW s1 0 w := hS0.other (hW.len9 hg) cp (by omega)
  have hlow : ∀ j, j < 220 → s1 j = slot j := fun j hj => cp.2 j (by omega)
  have hms := mays_ok hg hM hW.1.1 (k := 0) (by omega) hS1 hW.2.1 (F := F) (by omega)
  have e19 : s1 19 = nI w.2.2 := by
    have := hS1.2.2.2
    rw [Nat.mul_zero, Nat.zero_add] at this; exact this
  have hin : fX10_in (nI n).toInt64 0 2 = some (nI true.toNat) := by
    rw [in_ok, i2l_toInt, nI_toInt (by omega), show (0 : Int64).toInt = 0 from by decide, show (2 : Int64).toInt = 2 from by decide]
    have a : decide ((0 : Int) ≤ (n : Int)) = true := by simp
    have b : decide ((n : Int) ≤ 2) = true := by simp; omega
    rw [a, b]; rfl
  have hpre : ∀ E, (if nI (chC g w.1 w.2.2) = 0 then fX10_odds_55 F stones told touches has beside (nI n) p2 (nI (chC g w.1 w.2.2)) (lN CM) s1 else (if nI n = 0 then fX10_odds_55 F stones told touches has beside (nI n) p2 (nI (chC g w.1 w.2.2)) (lN CM) s1 else (if nI n = 1 then ((fX10_stuckNext F stones told touches has beside s1).bind fun r18 => (jl_let r18.1 fun v20 => fX10_odds_188 F stones told touches has beside (nI n) p2 v20 (lN CM) r18.2)) else (jl_let (lN CM * (nI (chC g w.1 w.2.2)).toInt64) fun v24 => lX10_odds_106 F stones told touches has beside (nI n) p2 F 0 v24 0 s1)))) = E → fX10_odds F stones told touches has beside slot (nI n) p2 = E := by
    intro E hE
    unfold fX10_odds
    rw [hin, Option.bind_some, if_t, in01, hp, Option.bind_some, if_t, show (0 : Int32) = nI 0 from rfl, show (11 : Int32) = nI 11 from rfl, c1, Option.bind_some, hms, Option.bind_some]
    exact hE
  by_cases h0 : chC g w.1 w.2.2 = 0
  · refine ⟨s1, ?_, hlow⟩
    apply hpre
    unfold fX10_odds_55 fX10_odds_76 fX10_odds_75 fX10_odds_76 odN odD
    rw [h0, if_00, if_pos (by decide), c19, e19, if_pos rfl, if_pos rfl]
    by_cases q : w.2.2 = 0
    · rw [if_pos (by rw [q]; rfl), if_pos q]
      exact odds_fin hF (N := CM) (D := CM) (by omega) (by omega) (by omega)
    · rw [if_neg (by rw [show (0 : Int32) = nI 0 from rfl, nI_eq (by omega) (by omega)]; exact q), if_neg q]
      exact odds_fin hF (N := 0) (D := CM) (by omega) (by omega) (by omega)
  · have hz : ¬ nI (chC g w.1 w.2.2) = 0 := by rw [show (0 : Int32) = nI 0 from rfl, nI_eq (by omega) (by omega)]; exact h0
    rcases (show n = 0 ∨ n = 1 ∨ n = 2 by omega) with rfl | rfl | rfl
    · refine ⟨s1, ?_, hlow⟩
      apply hpre
      have eN : odN g w 0 = 0 := by unfold odN; rw [if_neg h0, if_pos rfl]
      have eD : odD g w 0 = CM := by unfold odD; rw [if_neg h0, if_pos (by omega)]
      unfold fX10_odds_55 fX10_odds_75 fX10_odds_76
      rw [if_neg hz, if_00, if_neg hz, eN, eD]
      exact odds_fin hF (N := 0) (D := CM) (by omega) (by omega) (by omega)
    · obtain ⟨s2, r1, r2, r3⟩ := stuckNext_ok hg hM hW hS (F := F) (by omega)
      refine ⟨s2, ?_, fun j hj => by rw [r3 j hj]; exact hlow j hj⟩
      apply hpre
      have ho := od1_le (g := g) w.1 w.2.2
      have eN : odN g w 1 = od1 g w.1 w.2.2 := by unfold odN; rw [if_neg h0, if_neg (by omega), if_pos rfl]
      have eD : odD g w 1 = CM := by unfold odD; rw [if_neg h0, if_pos (by omega)]
      rw [if_neg hz, if_neg (by decide), if_pos (by decide), r1, Option.bind_some, jl_let_eq, eN, eD]
      exact odds_fin hF (by omega) (by omega) (by omega)
    · let val : Nat → Nat → Nat := fun s p => od1 g (upc w.1 s p) (1 - w.2.2)
      let h : Nat → Nat → Nat := fun s p => tv g w.1 w.2.2 val s p
      have hh : ∀ s p, pP g < p → h s p = 0 := tv_hi hg
      have hbd : tot g w.1 w.2.2 val ≤ 27 * CM := by
        unfold tot
        exact fb_sm_bound (fun k _ => by
          unfold tv
          split
          · exact od1_le _ _
          · exact Nat.zero_le _)
      have key : ∀ m k (sl : Nat → Int32), k + m = pn g * pP g → SW sl 11 w → (∀ j, j < 220 → sl j = slot j) → ∃ slot', (∀ f, m < f → jl_loop4 (bX10_odds_106 F stones told touches has beside (nI 2) p2) f (lN (fb_sm (fun i => h (i / 3) (i % 3 + 1)) (3 * (k / pP g) + k % pP g))) (lN (CM * chC g w.1 w.2.2)) (nI k) sl = some (if p2 = 0 then lN (tot g w.1 w.2.2 val / Nat.gcd (tot g w.1 w.2.2 val) (CM * chC g w.1 w.2.2)) else lN (CM * chC g w.1 w.2.2 / Nat.gcd (tot g w.1 w.2.2 val) (CM * chC g w.1 w.2.2)), slot')) ∧ ∀ j, j < 220 → slot' j = slot j := by
        intro m
        induction m with
        | zero =>
          intro k sl hk hSl hkp
          refine ⟨sl, fun f hf => ?_, hkp⟩
          obtain ⟨f', rfl⟩ : ∃ f', f = f' + 1 := ⟨f - 1, by omega⟩
          have e1 : k = pn g * pP g := by omega
          rw [jl_loop4_s]; unfold bX10_odds_106
          rw [c2, hM.2.1.2.2, hM.1, pk_mul, if_pos (by rw [e1, nI_leI (by omega) (by omega)]; exact Nat.le_refl _), e1, Nat.mul_div_cancel _ (show 0 < pP g by omega), Nat.mul_mod_left, Nat.add_zero, tot_ix hg]
          have hb2 : CM * chC g w.1 w.2.2 ≤ CM * 27 := Nat.mul_le_mul_left _ hle
          exact odds_fin hF (by omega) (by omega) (Nat.mul_pos (by omega) (by omega))
        | succ m ih =>
          intro k sl hk hSl hkp
          obtain ⟨a1, a2, a3, a4, a5, a6⟩ := may_at hg hM hW hSl (k := k) (F := F) (by omega) (by omega)
          have hone : nI k + Int32.ofInt 1 = nI (k + 1) := nI_add k 1
          obtain ⟨-, -, i3, i4⟩ := ix_step (P := pP g) (k := k) (by omega)
          have hsm := ix_sm hg hh (k := k)
          have hat := mayI_at (g := g) (c := w.1) (t := w.2.2) (s := k / pP g) (p := k % pP g + 1) (by omega) (by omega)
          rw [Nat.add_sub_cancel] at hat
          cases hm : mayG g w.1 w.2.2 (k / pP g) (k % pP g + 1) with
          | false =>
            obtain ⟨s', r1, r3⟩ := ih (k + 1) sl (by omega) hSl hkp
            refine ⟨s', fun f hf => ?_, r3⟩
            obtain ⟨f', rfl⟩ : ∃ f', f = f' + 1 := ⟨f - 1, by omega⟩
            have hr := r1 f' (by omega)
            rw [hsm] at hr
            have hh0 : h (k / pP g) (k % pP g + 1) = 0 := by
              show tv g w.1 w.2.2 val _ _ = 0
              unfold tv; rw [hm]; rfl
            rw [hh0, Nat.add_zero] at hr
            rw [jl_loop4_s]
            generalize jl_loop4 (bX10_odds_106 F stones told touches has beside (nI 2) p2) f' = L at hr ⊢
            unfold bX10_odds_106
            rw [if_neg a4, if_neg a3, jl_let_eq, if_neg a3]
            simp only [jl_let_eq]
            rw [a2, a1, a6, Option.bind_some, hone, hat, hm, if_f]
            exact hr
          | true =>
            have hm2 := hm
            unfold mayG at hm2
            rw [Bool.and_eq_true, decide_eq_true_eq] at hm2
            obtain ⟨p1, p2', p3'⟩ := may_le hg hm2.2
            have hW' := hW.paint hg hm2.1 hm2.2
            have el : (paintW w (k / pP g) (k % pP g + 1)).2.1.length = w.2.1.length + 1 := by simp [paintW]
            have hl9 := hW'.len9 hg
            obtain ⟨s2, q1, q2, q3⟩ := paints_ok (k := 11) (p := k % pP g + 1) (by omega) hSl (by omega) hW.2.1 (show k / pP g < 9 by omega)
            obtain ⟨s3, u1, u2, u3⟩ := stuckNext_ok hg hM hW' q2 (F := F) (by omega)
            obtain ⟨s4, t1, t2, t3⟩ := takesBack_ok (g := g) u2 (by omega) hW.2.1 (show k / pP g < 9 by omega) p3'
            obtain ⟨s', r1, r3⟩ := ih (k + 1) s4 (by omega) t2 (fun j hj => by rw [t3 j hj, u3 j hj, q3 j (by omega)]; exact hkp j hj)
            refine ⟨s', fun f hf => ?_, r3⟩
            obtain ⟨f', rfl⟩ : ∃ f', f = f' + 1 := ⟨f - 1, by omega⟩
            have hr := r1 f' (by omega)
            rw [hsm] at hr
            have hh1 : h (k / pP g) (k % pP g + 1) = od1 g (upc w.1 (k / pP g) (k % pP g + 1)) (1 - w.2.2) := by
              show tv g w.1 w.2.2 val _ _ = _
              unfold tv; rw [if_pos hm]
            rw [hh1, ← lN_add] at hr
            rw [jl_loop4_s]
            generalize jl_loop4 (bX10_odds_106 F stones told touches has beside (nI 2) p2) f' = L at hr ⊢
            unfold bX10_odds_106
            rw [if_neg a4, if_neg a3, jl_let_eq, if_neg a3]
            simp only [jl_let_eq]
            rw [a2, a1, a6, Option.bind_some, hone, hat, hm, if_t, show (11 : Int32) = nI 11 from rfl, q1, Option.bind_some, u1, Option.bind_some]
            dsimp only
            rw [t1, Option.bind_some]
            exact hr
      obtain ⟨s', r1, r3⟩ := key (pn g * pP g) 0 s1 (by omega) hS hlow
      refine ⟨s', ?_, r3⟩
      apply hpre
      have eN : odN g w 2 = tot g w.1 w.2.2 val := by unfold odN; rw [if_neg h0, if_neg (by omega), if_neg (by omega)]
      have eD : odD g w 2 = CM * chC g w.1 w.2.2 := by unfold odD; rw [if_neg h0, if_neg (by omega)]
      unfold lX10_odds_106
      rw [if_neg hz, if_neg (by decide), if_neg (by decide), jl_let_eq, nI_l (by omega), lN_mul, eN, eD]
      have := r1 F (by omega)
      rw [Nat.zero_div, Nat.zero_mod] at this
      exact this
theorem in02 (p : Int32) : fX10_in p.toInt64 0 2 = some (nI (isN p 3).toNat) := by
  rw [in_ok, i2l_toInt, show (0 : Int64).toInt = 0 from by decide, show (2 : Int64).toInt = 2 from by decide]
  unfold isN
  have : decide (p.toInt ≤ 2) = decide (p.toInt < (3 : Nat)) := by apply decide_eq_decide.mpr; omega
  rw [this]
theorem st_odds : St_odds Inv_ := by
  intro x_text_length x_text_bytes_ x_reader_at x_reader_first x_reader_second x_reader_stoneTold x_reader_paintTold x_wall_worn x_wall_turn x_wall_order x_wall_pastLength x_wall_heldLength x_wall_past_ x_wall_held_ x_row_length x_row_paintings_ x_game_known_ x_lot_above x_lot_below x_laid_rows x_laid_columns x_laid_paints x_laid_apart x_laid_paintsOf0 x_laid_paintsOf1 x_laid_old x_laid_shut x_laid_all x_laid_firstColumn x_laid_fitsAtFirst x_laid_paintingsOf0 x_laid_paintingsOf1 x_laid_ruledOut_ x_spare_rows x_spare_columns x_spare_paints x_spare_apart x_spare_paintsOf0 x_spare_paintsOf1 x_spare_old x_spare_shut x_spare_all x_spare_firstColumn x_spare_fitsAtFirst x_spare_paintingsOf0 x_spare_paintingsOf1 x_spare_ruledOut_ y_length y_at y_stones y_kept y_done y_rows y_frees y_fewest y_text_ y_told_ y_touches_ y_has_ y_old_ y_beside_ y_slot_ y_row_ y_free_ y_worth_ y_fore_ y_back_ y_got_
  intro p1 p2 hI
  have hI0 := hI
  replace hI : InvC x_text_length x_text_bytes_ x_reader_at x_reader_first x_reader_second x_reader_stoneTold x_reader_paintTold x_wall_worn x_wall_turn x_wall_order x_wall_pastLength x_wall_heldLength x_wall_past_ x_wall_held_ x_row_length x_row_paintings_ x_game_known_ x_lot_above x_lot_below x_laid_rows x_laid_columns x_laid_paints x_laid_apart x_laid_paintsOf0 x_laid_paintsOf1 x_laid_old x_laid_shut x_laid_all x_laid_firstColumn x_laid_fitsAtFirst x_laid_paintingsOf0 x_laid_paintingsOf1 x_laid_ruledOut_ x_spare_rows x_spare_columns x_spare_paints x_spare_apart x_spare_paintsOf0 x_spare_paintsOf1 x_spare_old x_spare_shut x_spare_all x_spare_firstColumn x_spare_fitsAtFirst x_spare_paintingsOf0 x_spare_paintingsOf1 x_spare_ruledOut_ y_length y_at y_stones y_kept y_done y_rows y_frees y_fewest y_text_ y_told_ y_touches_ y_has_ y_old_ y_beside_ y_slot_ y_row_ y_free_ y_worth_ y_fore_ y_back_ y_got_ := hI
  obtain ⟨g, w, d, ps, e, ks, r, rs, len, hg, hIT, hXU, hXS, hMR, hIW, hIP, hIH, hIR, hMem⟩ := hI
  obtain ⟨hW, rfl, rfl, rfl, hSW⟩ := hIW
  have hr := fb_rng p1
  have e0 : (p1 < 0) = (p1.toInt < 0) := by rw [fa_lt]; rfl
  have e1 : ((2 : Int32) < p1) = (2 < p1.toInt) := by rw [fa_lt]; rfl
  cases hz : isN p1 3
  · refine ⟨((-1 : Int64), x_lot_above, x_lot_below), ((-1 : Int64), y_slot_), ?_, ?_, Eq.refl (-1 : Int64), hI0⟩
    · unfold fX9_odds fX9_odds_18
      unfold isN at hz
      simp only [Bool.and_eq_false_iff, decide_eq_false_iff_not] at hz
      by_cases h : p1.toInt < 0
      · rw [if_pos (by rw [e0]; exact h)]
      · rw [if_neg (by rw [e0]; exact h), if_pos (by rw [e1]; omega)]
    · unfold fX10_odds fX10_odds_22
      rw [in02, hz]; rfl
  · obtain ⟨n, hn1, -, rfl⟩ := isN_iff.mp hz
    have n0 : ¬ nI n < 0 := nI_pos (by omega)
    have n1 : ¬ (2 : Int32) < nI n := by rw [show (2 : Int32) = nI 2 from rfl, nI_ltI (by omega) (by omega)]; omega
    cases hp : isN p2 2
    · obtain ⟨q0, q1⟩ := no01 hp
      refine ⟨((-1 : Int64), x_lot_above, x_lot_below), ((-1 : Int64), y_slot_), ?_, ?_, Eq.refl (-1 : Int64), hI0⟩
      · unfold fX9_odds fX9_odds_18
        rw [if_neg n0, if_neg n1, if_neg q0, if_neg q1]
      · unfold fX10_odds fX10_odds_22
        rw [in02, hz, Option.bind_some, if_t, in01, hp]; rfl
    · have hx := x_odds hg hXS hW (n := n) (by omega) (FU_ge (n := 101) (by omega)) x_lot_above x_lot_below
      obtain ⟨s2, m1, m2⟩ := odds_m hg hMR hW hSW (n := n) (by omega) hp (FU_ge (n := 200) (by omega))
      let A := lN (odN g w n / Nat.gcd (odN g w n) (odD g w n))
      let B := lN (odD g w n / Nat.gcd (odN g w n) (odD g w n))
      have hX : fX9_odds_22 FU (nI (wornS w.1)) (nI w.2.2) x_laid_fitsAtFirst x_laid_paintingsOf0 x_laid_paintingsOf1 x_laid_ruledOut_ (nI n) p2 x_lot_above x_lot_below = some (if p2 = 0 then A else B, A, B) := by
        unfold fX9_odds_22 fX1_chance
        rw [x_fitting hg hXS hW.1 (FU_ge (by omega)), Option.bind_some, hx, Option.bind_some]
        by_cases e : p2 = 0
        · rw [if_pos e, if_pos e]; rfl
        · rw [if_neg e, if_neg e]; rfl
      refine ⟨(if p2 = 0 then A else B, A, B), (if p2 = 0 then A else B, s2), ?_, m1, Eq.refl (if p2 = 0 then A else B), ?_⟩
      · unfold fX9_odds
        rw [if_neg n0, if_neg n1]
        by_cases e : p2 = 0
        · rw [if_pos e]; exact hX
        · rw [if_neg e, if_pos ((is01 hp).resolve_left e)]; exact hX
      · obtain ⟨z1, z2, z3⟩ := slot_low (slot' := s2) hg hW hSW hIP hIH m2
        exact ⟨g, w, d, ps, e, ks, r, rs, len, hg, hIT, hXU, hXS, hMR, ⟨hW, rfl, rfl, rfl, z1⟩, z2, z3, hIR, hMem⟩
