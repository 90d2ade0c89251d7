/-! the chance by lot: fractions in lowest terms -/
theorem red_eq {A B N D : Nat} (hB : 0 < B) (hD : 0 < D) (h : A * D = N * B) : A / Nat.gcd A B = N / Nat.gcd N D ∧ B / Nat.gcd A B = D / Nat.gcd N D := by
  have e : Nat.gcd A B * D = Nat.gcd N D * B := by
    rw [← Nat.gcd_mul_right, ← Nat.gcd_mul_right, h, Nat.mul_comm D B]
  constructor
  · rw [← Nat.mul_div_mul_right A (Nat.gcd A B) hD, h, e, Nat.mul_div_mul_right N (Nat.gcd N D) hB]
  · rw [← Nat.mul_div_mul_right B (Nat.gcd A B) hD, e, Nat.mul_comm B D, Nat.mul_div_mul_right D (Nat.gcd N D) hB]
theorem lgc0 {n : Nat} (h : n < 2 ^ 63) : (lg_cmp (lN n) (0 : Int64) = 0) = (n = 0) := by
  apply propext
  unfold lg_cmp
  by_cases h0 : n = 0
  · subst h0; exact ⟨fun _ => rfl, fun _ => by decide⟩
  · have : (0 : Int64) < lN n := by rw [show (0 : Int64) = lN 0 from rfl, pk_lLT (by omega) h]; omega
    rw [if_pos this]
    exact ⟨fun e => absurd e (by decide), fun e => absurd e h0⟩
theorem euc_half {x y : Nat} (hy : 0 < y) (hr : 0 < x % y) : 2 * (y % (x % y)) < y := by
  have h1 := Nat.mod_lt x hy
  have h2 := Nat.mod_lt y hr
  have h3 := Nat.div_add_mod y (x % y)
  have h4 : 1 ≤ y / (x % y) := by
    rw [Nat.one_le_div_iff hr]; omega
  have h5 := Nat.mul_le_mul_left (x % y) h4
  omega
theorem gcd_step {x y : Nat} : Nat.gcd y (x % y) = Nat.gcd x y := by
  rw [Nat.gcd_comm y, ← Nat.gcd_rec, Nat.gcd_comm]
theorem x_common {F : Nat} {p q : Int64} : ∀ n i x y, y < 2 ^ n → n < 50 → i + 2 * n ≤ 100 → x < 2 ^ 63 → ∀ f, 2 * n < f → jl_loop3 (bX1_commonPart_9 F p q) f (lN x) (lN y) (nI i) = some (lN (Nat.gcd x y)) := by
  intro n
  induction n with
  | zero =>
    intro i x y hy hn hi hx f hf
    obtain ⟨f', rfl⟩ : ∃ f', f = f' + 1 := ⟨f - 1, by omega⟩
    have : y = 0 := by omega
    subst this
    rw [jl_loop3_s]; unfold bX1_commonPart_9
    rw [Nat.gcd_zero_right]
    split
    · rfl
    · rw [if_pos (by rw [lgc0 (by omega)])]
  | succ n ih =>
    intro i x y hy hn hi hx f hf
    obtain ⟨f', rfl⟩ : ∃ f', f = f' + 2 := ⟨f - 2, by omega⟩
    have hy63 : y < 2 ^ 63 := Nat.lt_of_lt_of_le hy (Nat.pow_le_pow_right (by omega) (by omega))
    have stop : ∀ (K : Int64 → Int64 → Int32 → Option Int64) (u j : Nat), bX1_commonPart_9 F p q K (lN u) (lN 0) (nI j) = some (lN u) := by
      intro K u j
      unfold bX1_commonPart_9
      split
      · rfl
      · rw [if_pos (by rw [lgc0 (by omega)])]
    have step : ∀ (K : Int64 → Int64 → Int32 → Option Int64) (u v j : Nat), u < 2 ^ 63 → 0 < v → v < 2 ^ 63 → j < 100 → bX1_commonPart_9 F p q K (lN u) (lN v) (nI j) = K (lN v) (lN (u % v)) (nI (j + 1)) := by
      intro K u v j hu hv hv2 hj
      unfold bX1_commonPart_9
      have hone : nI j + Int32.ofInt 1 = nI (j + 1) := nI_add j 1
      rw [if_neg (by rw [show (100 : Int32) = nI 100 from rfl, nI_leI (by omega) (by omega)]; omega), if_neg (by rw [lgc0 hv2]; omega), if_neg (by rw [show (0 : Int64) = lN 0 from rfl, pk_lEQ hv2 (by omega)]; omega)]
      simp only [jl_let_eq]
      rw [pk_lRem hu hv hv2, hone]
    rcases Nat.eq_zero_or_pos y with h0 | h0
    · subst h0
      rw [jl_loop3_s, stop, Nat.gcd_zero_right]
    · rw [jl_loop3_s, step _ _ _ _ hx h0 hy63 (by omega), jl_loop3_s]
      have hr := Nat.mod_lt x h0
      rcases Nat.eq_zero_or_pos (x % y) with h1 | h1
      · rw [h1, stop]
        have : Nat.gcd x y = y := by rw [← gcd_step, h1, Nat.gcd_zero_right]
        rw [this]
      · have h2 := euc_half h0 h1
        rw [step _ _ _ _ hy63 h1 (by omega) (by omega)]
        have := ih (i + 1 + 1) (x % y) (y % (x % y)) (by rw [Nat.pow_succ] at hy; omega) (by omega) (by omega) (by omega) f' (by omega)
        rw [this, gcd_step, gcd_step]
theorem x_settleL {F : Nat} (hF : 101 ≤ F) (ta tb : Int64) {a b : Nat} (hb : 0 < b) (hb2 : b < 2 ^ 49) (ha : a < 2 ^ 63) : fX1_settle F ta tb (lN a) (lN b) = some (lN (a / Nat.gcd a b), lN (b / Nat.gcd a b)) := by
  have hg : 0 < Nat.gcd a b := Nat.gcd_pos_of_pos_right _ hb
  have hgl : Nat.gcd a b ≤ b := Nat.le_of_dvd hb (Nat.gcd_dvd_right a b)
  unfold fX1_settle fX1_commonPart lX1_commonPart_9
  rw [show (0 : Int32) = nI 0 from rfl, x_common 49 0 a b hb2 (by omega) (by omega) ha F (by omega), Option.bind_some]
  unfold fX1_settle_23 fX1_settle_42
  have e0 : ¬ lN (Nat.gcd a b) = 0 := by rw [show (0 : Int64) = lN 0 from rfl, pk_lEQ (by omega) (by omega)]; omega
  rw [show nI 0 = (0 : Int32) from rfl, if_neg (by rw [lgc0 (by omega)]; omega), if_neg e0, if_neg (by rw [lgc0 (by omega)]; omega), if_neg e0, pk_lDiv ha hg (by omega), pk_lDiv (by omega) hg (by omega)]
def CM : Nat := 80313433200
theorem CM_div : ∀ n, n < 28 → 1 ≤ n → n * (CM / n) = CM := by decide
/-- a value of each painting that may be, summed -/
def tv (g : JP) (c : Nat → Nat) (t : Nat) (val : Nat → Nat → Nat) (s p : Nat) : Nat := if mayG g c t s p = true then val s p else 0
theorem sm27 (h : Nat → Nat → Nat) : fb_sm (fun i => h (i % 9) (i / 9 + 1)) 27 = fb_sm (fun i => h (i / 3) (i % 3 + 1)) 27 := by
  have e1 : fb_sm (fun i => h (i % 9) (i / 9 + 1)) 27 = fb_sm (fun s => h s 1 + (h s 2 + h s 3)) 9 := by
    rw [show (27 : Nat) = 9 + (9 + 9) from rfl, fb_sm_split, fb_sm_split, ← fb_sm_add, ← fb_sm_add]
    refine fb_sm_cong (fun s hs => ?_)
    rw [show s % 9 = s by omega, show s / 9 + 1 = 1 by omega, show (9 + s) % 9 = s by omega, show (9 + s) / 9 + 1 = 2 by omega, show (9 + (9 + s)) % 9 = s by omega, show (9 + (9 + s)) / 9 + 1 = 3 by omega]
  have e2 : ∀ n, fb_sm (fun i => h (i / 3) (i % 3 + 1)) (3 * n) = fb_sm (fun s => h s 1 + (h s 2 + h s 3)) n := by
    intro n
    induction n with
    | zero => rfl
    | succ n ih =>
      rw [fb_sm_succ, ← ih, show 3 * (n + 1) = 3 * n + 3 by omega, fb_sm_split]
      congr 1
      show fb_sm _ (0 + 1 + 1 + 1) = _
      rw [fb_sm_succ, fb_sm_succ, fb_sm_succ]
      show 0 + _ + _ + _ = _
      rw [show (3 * n + 0) / 3 = n by omega, show (3 * n + 0) % 3 + 1 = 1 by omega, show (3 * n + (0 + 1)) / 3 = n by omega, show (3 * n + (0 + 1)) % 3 + 1 = 2 by omega, show (3 * n + (0 + 1 + 1)) / 3 = n by omega, show (3 * n + (0 + 1 + 1)) % 3 + 1 = 3 by omega]
      omega
  rw [e1, show (27 : Nat) = 3 * 9 from rfl, e2]
def tot (g : JP) (c : Nat → Nat) (t : Nat) (val : Nat → Nat → Nat) : Nat := fb_sm (fun i => tv g c t val (i % 9) (i / 9 + 1)) 27
/-- the class weighs all paintings -/
theorem x_weighAll {g : JP} (hg : GOK g) {all fc fit pg0 pg1 : Int32} {ro : Nat → Int32} (hX : XS g all fc fit pg0 pg1 ro) {rec : Int64 → Int64 → Int32 → Int32 → (Nat → Int32) → Int32 → Int32 → Int32 → Option (Int64 × Int64)} {w : JW} (hW : WOK g w) {turns : Int32} {val : Nat → Nat → Nat} {F : Nat} (hF : 101 ≤ F)
    (hrec : ∀ s p, s < pn g → mayA g w.1 w.2.2 s p = true → ∀ ta tb, ∃ a b, rec ta tb pg0 pg1 ro (nI (fitS g (upc w.1 s p))) (nI (1 - w.2.2)) (turns - 1) = some (lN a, lN b) ∧ 1 ≤ b ∧ b ≤ 27 ∧ a ≤ b ∧ a * CM = val s p * b) (hc : chC g w.1 w.2.2 ≠ 0) (ta tb : Int64) :
    fX1_weighAll F rec ta tb pg0 pg1 ro (nI (fitS g w.1)) (nI w.2.2) turns = some (lN (tot g w.1 w.2.2 val / Nat.gcd (tot g w.1 w.2.2 val) (CM * chC g w.1 w.2.2)), lN (CM * chC g w.1 w.2.2 / Nat.gcd (tot g w.1 w.2.2 val) (CM * chC g w.1 w.2.2))) := by
  obtain ⟨hn1, hn9, -, -⟩ := gn hg
  have hP3 := hg.2.2.2.2.1
  have hle := chC_le g w.1 w.2.2
  have hch : nI (fitS g w.1) &&& (if w.2.2 = 0 then pg0 else pg1) = nI (chS g w.1 w.2.2) := by
    have ht := hW.2.1
    rw [hX.2.2.2.1, hX.2.2.2.2.1]
    rcases (show w.2.2 = 0 ∨ w.2.2 = 1 by omega) with q | q
    · rw [if_pos q, ni_and, q, chS_eq hg hW.1]
    · rw [if_neg (by omega), ni_and, q, chS_eq hg hW.1]
  have hval : ∀ s p, s < pn g → mayA g w.1 w.2.2 s p = true → val s p ≤ CM := by
    intro s p hs hm
    obtain ⟨a, b, -, h1, h2, h3, h4⟩ := hrec s p hs hm 0 0
    have h5 : val s p * b ≤ CM * b := by rw [← h4, Nat.mul_comm CM b]; exact Nat.mul_le_mul_right _ h3
    exact Nat.le_of_mul_le_mul_right h5 (by omega)
  have htv : ∀ i, tv g w.1 w.2.2 val (i % 9) (i / 9 + 1) ≤ CM := by
    intro i
    unfold tv
    split
    · next h =>
      unfold mayG at h
      rw [Bool.and_eq_true, decide_eq_true_eq] at h
      exact hval _ _ h.1 h.2
    · exact Nat.zero_le _
  have hcm : CM = 80313433200 := rfl
  have key : ∀ m i (ta tb : Int64), i + m = 27 → ∀ f, m < f → jl_loop6 (bX1_weighAll_18 F rec pg0 pg1 ro (nI (fitS g w.1)) (nI w.2.2) turns) f (nI (chS g w.1 w.2.2)) (lN (fb_sm (fun i => tv g w.1 w.2.2 val (i % 9) (i / 9 + 1)) i / Nat.gcd (fb_sm (fun i => tv g w.1 w.2.2 val (i % 9) (i / 9 + 1)) i) CM)) (lN (CM / Nat.gcd (fb_sm (fun i => tv g w.1 w.2.2 val (i % 9) (i / 9 + 1)) i) CM)) (nI i) ta tb = some (lN (tot g w.1 w.2.2 val / Nat.gcd (tot g w.1 w.2.2 val) (CM * chC g w.1 w.2.2)), lN (CM * chC g w.1 w.2.2 / Nat.gcd (tot g w.1 w.2.2 val) (CM * chC g w.1 w.2.2))) := by
    intro m
    induction m with
    | zero =>
      intro i ta tb hi f hf
      obtain ⟨f', rfl⟩ : ∃ f', f = f' + 1 := ⟨f - 1, by omega⟩
      have : i = 27 := by omega
      subst this
      have hS : fb_sm (fun i => tv g w.1 w.2.2 val (i % 9) (i / 9 + 1)) 27 ≤ 27 * CM := fb_sm_bound (fun k _ => htv k)
      rw [show fb_sm (fun i => tv g w.1 w.2.2 val (i % 9) (i / 9 + 1)) 27 = tot g w.1 w.2.2 val from rfl] at hS ⊢
      generalize tot g w.1 w.2.2 val = S at hS ⊢
      have hg0 : 0 < Nat.gcd S CM := Nat.gcd_pos_of_pos_right _ (by omega)
      have d1 : S / Nat.gcd S CM * Nat.gcd S CM = S := Nat.div_mul_cancel (Nat.gcd_dvd_left S CM)
      have d2 : CM / Nat.gcd S CM * Nat.gcd S CM = CM := Nat.div_mul_cancel (Nat.gcd_dvd_right S CM)
      have b1 : S / Nat.gcd S CM ≤ S := Nat.div_le_self _ _
      have b2 : CM / Nat.gcd S CM ≤ CM := Nat.div_le_self _ _
      have b3 : 0 < CM / Nat.gcd S CM := by
        rcases Nat.eq_zero_or_pos (CM / Nat.gcd S CM) with q | q
        · rw [q] at d2; omega
        · exact q
      have b4 : 0 < CM / Nat.gcd S CM * chC g w.1 w.2.2 := Nat.mul_pos b3 (by omega)
      have b5 : CM / Nat.gcd S CM * chC g w.1 w.2.2 ≤ CM * 27 := Nat.mul_le_mul b2 hle
      have hcr : S / Nat.gcd S CM * (CM * chC g w.1 w.2.2) = S * (CM / Nat.gcd S CM * chC g w.1 w.2.2) := by
        have : S / Nat.gcd S CM * CM = S * (CM / Nat.gcd S CM) := by
          have h1 : S / Nat.gcd S CM * (CM / Nat.gcd S CM * Nat.gcd S CM) = S / Nat.gcd S CM * Nat.gcd S CM * (CM / Nat.gcd S CM) := by
            rw [Nat.mul_comm (CM / Nat.gcd S CM), Nat.mul_assoc]
          rw [d2, d1] at h1; exact h1
        rw [← Nat.mul_assoc, this, Nat.mul_assoc]
      have hre := red_eq b4 (Nat.mul_pos (show 0 < CM by omega) (show 0 < chC g w.1 w.2.2 by omega)) hcr
      rw [jl_loop6_s]; unfold bX1_weighAll_18
      rw [if_pos (by decide), bitCount_ok (chS_lt31 _ _ _), Option.bind_some, x_chC, nI_l (by omega), lN_mul, x_settleL hF ta tb b4 (by omega) (by omega), Option.bind_some, hre.1, hre.2]
    | succ m ih =>
      intro i ta tb hi f hf
      obtain ⟨f', rfl⟩ : ∃ f', f = f' + 1 := ⟨f - 1, by omega⟩
      have hone : nI i + Int32.ofInt 1 = nI (i + 1) := nI_add i 1
      have hsucc := fb_sm_succ (fun i => tv g w.1 w.2.2 val (i % 9) (i / 9 + 1)) i
      have hS : fb_sm (fun i => tv g w.1 w.2.2 val (i % 9) (i / 9 + 1)) i ≤ i * CM := fb_sm_bound (fun k _ => htv k)
      have hS2 : i * CM ≤ 27 * CM := Nat.mul_le_mul_right _ (by omega)
      rw [jl_loop6_s]
      have hrc := fun ta tb => ih (i + 1) ta tb (by omega) f' (by omega)
      rw [hsucc] at hrc
      generalize fb_sm (fun i => tv g w.1 w.2.2 val (i % 9) (i / 9 + 1)) i = S at hS hrc ⊢
      generalize jl_loop6 (bX1_weighAll_18 F rec pg0 pg1 ro (nI (fitS g w.1)) (nI w.2.2) turns) f' = L at hrc ⊢
      have hbit : (nI (chS g w.1 w.2.2) >>> (nI i &&& 31)) &&& 1 = nI (mayG g w.1 w.2.2 (i % 9) (i / 9 + 1)).toNat := by
        have h1 := ni_bit (m := chS g w.1 w.2.2) (j := i) (chS_lt31 _ _ _) (by omega)
        have h2 : (chS g w.1 w.2.2).testBit i = mayG g w.1 w.2.2 (i % 9) (i / 9 + 1) := by
          have := nbp_tb (h := mayG g w.1 w.2.2) (s := i % 9) (p := i / 9 + 1) (by omega) (by omega) (by omega)
          rw [show 9 * (i / 9 + 1 - 1) + i % 9 = i by omega] at this
          exact this
        rw [h2] at h1; exact h1
      unfold bX1_weighAll_18
      rw [if_neg (by rw [show (27 : Int32) = nI 27 from rfl, nI_leI (by omega) (by omega)]; omega), hbit]
      unfold tv at hrc
      cases hm : mayG g w.1 w.2.2 (i % 9) (i / 9 + 1) with
      | false =>
        rw [if_f, jl_let_eq, hone]
        have := hrc ta tb
        rw [hm] at this
        exact this
      | true =>
        have hm2 := hm
        unfold mayG at hm2
        rw [Bool.and_eq_true, decide_eq_true_eq] at hm2
        obtain ⟨a, b, r1, r2, r3, r4, r5⟩ := hrec (i % 9) (i / 9 + 1) hm2.1 hm2.2 ta tb
        obtain ⟨p1, p2, p3⟩ := may_le hg hm2.2
        have hfa := x_fitAfter hg hX hm2.1 p1 (by omega) p3
        rw [show 9 * (i / 9 + 1 - 1) + i % 9 = i by omega] at hfa
        have hv := hval _ _ hm2.1 hm2.2
        have hg0 : 0 < Nat.gcd S CM := Nat.gcd_pos_of_pos_right _ (by omega)
        have d1 : S / Nat.gcd S CM * Nat.gcd S CM = S := Nat.div_mul_cancel (Nat.gcd_dvd_left S CM)
        have d2 : CM / Nat.gcd S CM * Nat.gcd S CM = CM := Nat.div_mul_cancel (Nat.gcd_dvd_right S CM)
        have b1 : S / Nat.gcd S CM ≤ S := Nat.div_le_self _ _
        have b2 : CM / Nat.gcd S CM ≤ CM := Nat.div_le_self _ _
        have b3 : 0 < CM / Nat.gcd S CM := by
          rcases Nat.eq_zero_or_pos (CM / Nat.gcd S CM) with q | q
          · rw [q] at d2; omega
          · exact q
        have hx : S / Nat.gcd S CM * CM = S * (CM / Nat.gcd S CM) := by
          have h1 : S / Nat.gcd S CM * (CM / Nat.gcd S CM * Nat.gcd S CM) = S / Nat.gcd S CM * Nat.gcd S CM * (CM / Nat.gcd S CM) := by
            rw [Nat.mul_comm (CM / Nat.gcd S CM), Nat.mul_assoc]
          rw [d2, d1] at h1; exact h1
        generalize S / Nat.gcd S CM = sm at *
        generalize CM / Nat.gcd S CM = pt at *
        have c1 : sm * b ≤ 27 * CM * 27 := Nat.mul_le_mul (by omega) r3
        have c2 : a * pt ≤ 27 * CM := Nat.mul_le_mul (by omega) b2
        have c3 : pt * b ≤ CM * 27 := Nat.mul_le_mul b2 r3
        have c4 : 0 < pt * b := Nat.mul_pos b3 (by omega)
        have hcr : (sm * b + a * pt) * CM = (S + val (i % 9) (i / 9 + 1)) * (pt * b) := by
          rw [Nat.add_mul, Nat.add_mul]
          have e1 : sm * b * CM = S * (pt * b) := by
            rw [Nat.mul_right_comm, hx, Nat.mul_assoc]
          have e2 : a * pt * CM = val (i % 9) (i / 9 + 1) * (pt * b) := by
            rw [Nat.mul_right_comm, r5, Nat.mul_assoc, Nat.mul_comm b pt]
          rw [e1, e2]
        have hre := red_eq c4 (show 0 < CM by omega) hcr
        have h1m : (1 : Int32) - nI w.2.2 = nI (1 - w.2.2) := turn_1 hW.2.1
        rw [if_t, one_shl (by omega), hfa, Option.bind_some, h1m, r1, Option.bind_some]
        dsimp only
        rw [lN_mul, lN_mul, lN_mul, lN_add, x_settleL hF _ _ c4 (by omega) (by omega), Option.bind_some]
        simp only [jl_let_eq]
        rw [hone, hre.1, hre.2]
        have := hrc (lN ((S + val (i % 9) (i / 9 + 1)) / Nat.gcd (S + val (i % 9) (i / 9 + 1)) CM)) (lN (CM / Nat.gcd (S + val (i % 9) (i / 9 + 1)) CM))
        rw [hm] at this
        exact this
  unfold fX1_weighAll lX1_weighAll_18
  rw [x_paintingsOf hW.2.1, Option.bind_some, jl_let_eq, hch]
  have := key 27 0 ta tb rfl F (by omega)
  rw [show fb_sm (fun i => tv g w.1 w.2.2 val (i % 9) (i / 9 + 1)) 0 = 0 from rfl, Nat.gcd_zero_left, Nat.zero_div, Nat.div_self (by omega)] at this
  exact this
/-- the chances, in parts of CM: now, one turn from now, two -/
def od0 (g : JP) (c : Nat → Nat) (t : Nat) : Nat := if chC g c t = 0 ∧ t = 0 then 1 else 0
def od1 (g : JP) (c : Nat → Nat) (t : Nat) : Nat := if chC g c t = 0 then (if t = 0 then CM else 0) else tot g c t (fun s p => od0 g (upc c s p) (1 - t)) * (CM / chC g c t)
theorem x_weigh_end {g : JP} (hg : GOK g) {all fc fit pg0 pg1 : Int32} {ro : Nat → Int32} (hX : XS g all fc fit pg0 pg1 ro) {w : JW} (hW : WOK g w) {turns : Int32} {F d : Nat} (hF : 101 ≤ F) (h : chC g w.1 w.2.2 = 0 ∨ ¬ 0 < turns) (ta tb : Int64) : fX1_weigh F (d + 1) ta tb pg0 pg1 ro (nI (fitS g w.1)) (nI w.2.2) turns = some (lN (od0 g w.1 w.2.2), lN 1) := by
  have hle := chC_le g w.1 w.2.2
  have hch : nI (fitS g w.1) &&& (if w.2.2 = 0 then pg0 else pg1) = nI (chS g w.1 w.2.2) := by
    have ht := hW.2.1
    rw [hX.2.2.2.1, hX.2.2.2.2.1]
    rcases (show w.2.2 = 0 ∨ w.2.2 = 1 by omega) with q | q
    · rw [if_pos q, ni_and, q, chS_eq hg hW.1]
    · rw [if_neg (by omega), ni_and, q, chS_eq hg hW.1]
  have s1 : fX1_settle F ta tb 1 1 = some (lN 1, lN 1) := x_settleL hF ta tb (a := 1) (b := 1) (by omega) (by omega) (by omega)
  have s0 : fX1_settle F ta tb 0 1 = some (lN 0, lN 1) := x_settleL hF ta tb (a := 0) (b := 1) (by omega) (by omega) (by omega)
  have hz := chS_zero g w.1 w.2.2
  have hcl := chS_lt31 g w.1 w.2.2
  have ht := hW.2.1
  unfold fX1_weigh
  rw [jl_loop8_s]
  unfold gX1_weigh fX1_weigh_20 od0
  rw [x_paintingsOf hW.2.1, Option.bind_some, hch]
  by_cases h0 : chC g w.1 w.2.2 = 0
  · rw [if_pos (by rw [hz.mpr h0]; rfl)]
    by_cases h1 : w.2.2 = 0
    · rw [if_pos (by rw [h1]; rfl), s1, if_pos ⟨h0, h1⟩]; rfl
    · rw [if_neg (by rw [show (0 : Int32) = nI 0 from rfl, nI_eq (by omega) (by omega)]; exact h1), s0, if_neg (fun e => h1 e.2)]; rfl
  · rw [if_neg (by rw [show (0 : Int32) = nI 0 from rfl, nI_eq hcl (by omega), hz]; exact h0), if_neg (h.resolve_left h0), s0, if_neg (fun e => h0 e.1)]; rfl
theorem x_weigh_step {g : JP} (hg : GOK g) {all fc fit pg0 pg1 : Int32} {ro : Nat → Int32} (hX : XS g all fc fit pg0 pg1 ro) {w : JW} (hW : WOK g w) {turns : Int32} {val : Nat → Nat → Nat} {F d : Nat} (hF : 101 ≤ F) (h0 : chC g w.1 w.2.2 ≠ 0) (ht : 0 < turns)
    (hrec : ∀ s p, s < pn g → mayA g w.1 w.2.2 s p = true → ∀ ta tb, ∃ a b, fX1_weigh F d ta tb pg0 pg1 ro (nI (fitS g (upc w.1 s p))) (nI (1 - w.2.2)) (turns - 1) = some (lN a, lN b) ∧ 1 ≤ b ∧ b ≤ 27 ∧ a ≤ b ∧ a * CM = val s p * b) (ta tb : Int64) :
    fX1_weigh F (d + 1) ta tb pg0 pg1 ro (nI (fitS g w.1)) (nI w.2.2) turns = some (lN (tot g w.1 w.2.2 val / Nat.gcd (tot g w.1 w.2.2 val) (CM * chC g w.1 w.2.2)), lN (CM * chC g w.1 w.2.2 / Nat.gcd (tot g w.1 w.2.2 val) (CM * chC g w.1 w.2.2))) := by
  have hle := chC_le g w.1 w.2.2
  have hch : nI (fitS g w.1) &&& (if w.2.2 = 0 then pg0 else pg1) = nI (chS g w.1 w.2.2) := by
    have ht := hW.2.1
    rw [hX.2.2.2.1, hX.2.2.2.2.1]
    rcases (show w.2.2 = 0 ∨ w.2.2 = 1 by omega) with q | q
    · rw [if_pos q, ni_and, q, chS_eq hg hW.1]
    · rw [if_neg (by omega), ni_and, q, chS_eq hg hW.1]
  have hz := chS_zero g w.1 w.2.2
  have hcl := chS_lt31 g w.1 w.2.2
  unfold fX1_weigh
  rw [jl_loop8_s]
  have hwa := x_weighAll hg hX hW (rec := jl_loop8 (fun rec => gX1_weigh F rec) d) (turns := turns) (val := val) hF hrec h0 ta tb
  generalize jl_loop8 (fun rec => gX1_weigh F rec) d = R at hwa ⊢
  unfold gX1_weigh
  rw [x_paintingsOf hW.2.1, Option.bind_some, hch, if_neg (by rw [show (0 : Int32) = nI 0 from rfl, nI_eq hcl (by omega), hz]; exact h0), if_pos ht, hwa]; rfl
theorem tot_le {g : JP} {c : Nat → Nat} {t : Nat} {val : Nat → Nat → Nat} (h : ∀ s p, val s p ≤ 1) : tot g c t val ≤ chC g c t := by
  have e : chC g c t = fb_sm (fun i => if mayG g c t (i % 9) (i / 9 + 1) = true then 1 else 0) 27 := by
    rw [sm27 (fun s p => if mayG g c t s p = true then 1 else 0), ← mayI_all, ct_sm]
    rfl
  rw [e]
  unfold tot tv
  refine fb_sm_le (fun k _ => ?_)
  split
  · exact h _ _
  · exact Nat.le_refl 0
theorem od0_le (g : JP) (c : Nat → Nat) (t : Nat) : od0 g c t ≤ 1 := by unfold od0; split <;> omega
/-- one turn from now -/
theorem x_weigh1 {g : JP} (hg : GOK g) {all fc fit pg0 pg1 : Int32} {ro : Nat → Int32} (hX : XS g all fc fit pg0 pg1 ro) {w : JW} (hW : WOK g w) {F d : Nat} (hF : 101 ≤ F) (ta tb : Int64) : ∃ a b, fX1_weigh F (d + 2) ta tb pg0 pg1 ro (nI (fitS g w.1)) (nI w.2.2) 1 = some (lN a, lN b) ∧ 1 ≤ b ∧ b ≤ 27 ∧ a ≤ b ∧ a * CM = od1 g w.1 w.2.2 * b ∧ a = od1 g w.1 w.2.2 / Nat.gcd (od1 g w.1 w.2.2) CM ∧ b = CM / Nat.gcd (od1 g w.1 w.2.2) CM := by
  have hcm : CM = 80313433200 := rfl
  by_cases h0 : chC g w.1 w.2.2 = 0
  · refine ⟨od0 g w.1 w.2.2, 1, x_weigh_end hg hX hW hF (Or.inl h0) ta tb, by omega, by omega, od0_le _ _ _, ?_⟩
    unfold od0 od1
    rw [if_pos h0]
    by_cases h1 : w.2.2 = 0
    · rw [if_pos ⟨h0, h1⟩, if_pos h1, Nat.gcd_self, Nat.div_self (by omega)]
      exact ⟨by omega, rfl, rfl⟩
    · rw [if_neg (fun e => h1 e.2), if_neg h1, Nat.gcd_zero_left, Nat.div_self (by omega), Nat.zero_div]
      exact ⟨by omega, rfl, rfl⟩
  · have hle := chC_le g w.1 w.2.2
    have hst := x_weigh_step hg hX hW (turns := 1) (val := fun s p => od0 g (upc w.1 s p) (1 - w.2.2) * CM) (d := d + 1) hF h0 (by decide) (fun s p hs hm ta tb => by
      have hW' := hW.paint hg hs hm
      refine ⟨od0 g (upc w.1 s p) (1 - w.2.2), 1, x_weigh_end hg hX hW' hF (Or.inr (by decide)) ta tb, by omega, by omega, od0_le _ _ _, (Nat.mul_one _).symm⟩) ta tb
    have hsum : tot g w.1 w.2.2 (fun s p => od0 g (upc w.1 s p) (1 - w.2.2) * CM) = tot g w.1 w.2.2 (fun s p => od0 g (upc w.1 s p) (1 - w.2.2)) * CM := by
      unfold tot
      have : ∀ n, fb_sm (fun i => tv g w.1 w.2.2 (fun s p => od0 g (upc w.1 s p) (1 - w.2.2) * CM) (i % 9) (i / 9 + 1)) n = fb_sm (fun i => tv g w.1 w.2.2 (fun s p => od0 g (upc w.1 s p) (1 - w.2.2)) (i % 9) (i / 9 + 1)) n * CM := by
        intro n
        induction n with
        | zero => exact (Nat.zero_mul _).symm
        | succ n ih =>
          rw [fb_sm_succ, fb_sm_succ, ih, Nat.add_mul]
          congr 1
          unfold tv
          split
          · rfl
          · exact (Nat.zero_mul _).symm
      exact this 27
    have hsn := tot_le (g := g) (c := w.1) (t := w.2.2) (val := fun s p => od0 g (upc w.1 s p) (1 - w.2.2)) (fun s p => od0_le _ _ _)
    rw [hsum] at hst
    have ho : od1 g w.1 w.2.2 = tot g w.1 w.2.2 (fun s p => od0 g (upc w.1 s p) (1 - w.2.2)) * (CM / chC g w.1 w.2.2) := by
      unfold od1; rw [if_neg h0]
    generalize tot g w.1 w.2.2 (fun s p => od0 g (upc w.1 s p) (1 - w.2.2)) = S at hst hsn ho
    have hdv := CM_div (chC g w.1 w.2.2) (by omega) (by omega)
    generalize chC g w.1 w.2.2 = n at *
    have e1 : S * CM * CM = od1 g w.1 w.2.2 * (CM * n) := by
      rw [ho, Nat.mul_assoc, Nat.mul_assoc, show CM / n * (CM * n) = CM * CM from by rw [Nat.mul_left_comm, Nat.mul_comm (CM / n), hdv]]
    have r1 := red_eq (A := S * CM) (B := CM * n) (N := od1 g w.1 w.2.2) (D := CM) (Nat.mul_pos (by omega) (by omega)) (by omega) e1
    have r2 := red_eq (A := S * CM) (B := CM * n) (N := S) (D := n) (Nat.mul_pos (by omega) (by omega)) (by omega) (by rw [Nat.mul_assoc])
    refine ⟨_, _, hst, ?_, ?_, ?_, ?_, r1.1, r1.2⟩
    · rw [r2.2]
      exact Nat.div_pos (Nat.le_of_dvd (by omega) (Nat.gcd_dvd_right _ _)) (Nat.gcd_pos_of_pos_right _ (by omega))
    · rw [r2.2]; exact Nat.le_trans (Nat.div_le_self _ _) (by omega)
    · rw [r2.1, r2.2]; exact Nat.div_le_div_right hsn
    · rw [r1.1, r1.2]
      have d1 : od1 g w.1 w.2.2 / Nat.gcd (od1 g w.1 w.2.2) CM * Nat.gcd (od1 g w.1 w.2.2) CM = od1 g w.1 w.2.2 := Nat.div_mul_cancel (Nat.gcd_dvd_left _ CM)
      have d2 : CM / Nat.gcd (od1 g w.1 w.2.2) CM * Nat.gcd (od1 g w.1 w.2.2) CM = CM := Nat.div_mul_cancel (Nat.gcd_dvd_right _ CM)
      have h1 : od1 g w.1 w.2.2 / Nat.gcd (od1 g w.1 w.2.2) CM * (CM / Nat.gcd (od1 g w.1 w.2.2) CM * Nat.gcd (od1 g w.1 w.2.2) CM) = od1 g w.1 w.2.2 / Nat.gcd (od1 g w.1 w.2.2) CM * Nat.gcd (od1 g w.1 w.2.2) CM * (CM / Nat.gcd (od1 g w.1 w.2.2) CM) := by
        rw [Nat.mul_comm (CM / Nat.gcd (od1 g w.1 w.2.2) CM), Nat.mul_assoc]
      rw [d2, d1] at h1; exact h1
/-- what the answer is the lowest terms of -/
def odN (g : JP) (w : JW) (n : Nat) : Nat := if chC g w.1 w.2.2 = 0 then (if w.2.2 = 0 then CM else 0) else if n = 0 then 0 else if n = 1 then od1 g w.1 w.2.2 else tot g w.1 w.2.2 (fun s p => od1 g (upc w.1 s p) (1 - w.2.2))
def odD (g : JP) (w : JW) (n : Nat) : Nat := if chC g w.1 w.2.2 = 0 then CM else if n ≤ 1 then CM else CM * chC g w.1 w.2.2
theorem x_odds {g : JP} (hg : GOK g) {all fc fit pg0 pg1 : Int32} {ro : Nat → Int32} (hX : XS g all fc fit pg0 pg1 ro) {w : JW} (hW : WOK g w) {n F : Nat} (hn : n ≤ 2) (hF : 101 ≤ F) (ta tb : Int64) : fX1_weigh F 4 ta tb pg0 pg1 ro (nI (fitS g w.1)) (nI w.2.2) (nI n) = some (lN (odN g w n / Nat.gcd (odN g w n) (odD g w n)), lN (odD g w n / Nat.gcd (odN g w n) (odD g w n))) := by
  have hcm : CM = 80313433200 := rfl
  unfold odN odD
  by_cases h0 : chC g w.1 w.2.2 = 0
  · rw [if_pos h0, if_pos h0, x_weigh_end hg hX hW hF (Or.inl h0) ta tb]
    unfold od0
    by_cases h1 : w.2.2 = 0
    · rw [if_pos ⟨h0, h1⟩, if_pos h1, Nat.gcd_self, Nat.div_self (by omega)]
    · rw [if_neg (fun e => h1 e.2), if_neg h1, Nat.gcd_zero_left, Nat.div_self (by omega), Nat.zero_div]
  · rw [if_neg h0, if_neg h0]
    rcases (show n = 0 ∨ n = 1 ∨ n = 2 by omega) with rfl | rfl | rfl
    · rw [x_weigh_end hg hX hW hF (Or.inr (by decide)) ta tb, if_pos rfl, if_pos (by omega), Nat.gcd_zero_left, Nat.div_self (by omega), Nat.zero_div]
      unfold od0
      rw [if_neg (fun e => h0 e.1)]
    · obtain ⟨a, b, h1, -, -, -, -, h2, h3⟩ := x_weigh1 hg hX hW (d := 2) hF ta tb
      rw [if_neg (by omega), if_pos rfl, if_pos (by omega), ← h2, ← h3]
      exact h1
    · rw [if_neg (by omega), if_neg (by omega), if_neg (by omega)]
      refine x_weigh_step hg hX hW (turns := nI 2) (val := fun s p => od1 g (upc w.1 s p) (1 - w.2.2)) (d := 3) hF h0 (by decide) (fun s p hs hm ta tb => ?_) ta tb
      have hW' := hW.paint hg hs hm
      obtain ⟨a, b, h1, h2, h3, h4, h5, -⟩ := x_weigh1 hg hX hW' (d := 1) hF ta tb
      exact ⟨a, b, h1, h2, h3, h4, h5⟩
