/-! the least to scrape -/
theorem ct_32 {m : Nat} (hm : m < 2 ^ 9) : fb_ct m.testBit 32 = fb_ct m.testBit 9 := by
  have e := nb_of (n := 9) hm
  rw [← e, ct_nb (by omega), ct_nb (Nat.le_refl 9)]
/-- a set whose scraping leaves a way -/
def scr (g : JP) (w : JW) (m : Nat) : Bool := decide (adn m (frS w) = 0) && decide (waysN g (cwo w.1 m) ≠ 0)
theorem sub_mem {w : JW} {m : Nat} (hm : m < 2 ^ 9) (h : adn m (frS w) = 0) {s : Nat} (hs : m.testBit s = true) : s ∈ w.2.1 := by
  have := congrArg (fun z => z.testBit s) h
  simp only [adn_tb (show m < 2 ^ 32 by omega), hs, Bool.true_and, Nat.zero_testBit, Bool.not_eq_false'] at this
  unfold frS at this
  rw [nb_tb] at this
  simp only [Bool.and_eq_true, decide_eq_true_eq] at this
  exact this.2
theorem sub_le {m k : Nat} (hm : m < 2 ^ 9) (hk : k < 2 ^ 9) (h : adn m k = 0) : m ≤ k := by
  have : m &&& k = m := by
    apply Nat.eq_of_testBit_eq; intro i
    have := congrArg (fun z => z.testBit i) h
    simp only [adn_tb (show m < 2 ^ 32 by omega), Nat.zero_testBit] at this
    rw [Nat.testBit_and]
    cases h1 : m.testBit i
    · rfl
    · rw [h1] at this
      simp only [Bool.true_and, Bool.not_eq_false'] at this
      rw [this]; rfl
  rw [← this]; exact Nat.and_le_right
/-- the answer: none, or the first set by how many, then by its number -/
def ScrA (g : JP) (w : JW) (r : Int32) : Prop := (r = -4 ∧ ∀ y, y < 2 ^ 9 → scr g w y = false) ∨ ∃ x, x < 2 ^ 9 ∧ r = nI x ∧ scr g w x = true ∧ ∀ y, y < 2 ^ 9 → scr g w y = true → fb_ct x.testBit 9 < fb_ct y.testBit 9 ∨ (fb_ct x.testBit 9 = fb_ct y.testBit 9 ∧ x ≤ y)
theorem ScrA.one {g : JP} {w : JW} {r r' : Int32} (h : ScrA g w r) (h' : ScrA g w r') : r = r' := by
  rcases h with ⟨h1, h2⟩ | ⟨x, h1, h2, h3, h4⟩
  · rcases h' with ⟨k1, k2⟩ | ⟨y, k1, k2, k3, k4⟩
    · rw [h1, k1]
    · rw [h2 y k1] at k3; cases k3
  · rcases h' with ⟨k1, k2⟩ | ⟨y, k1, k2, k3, k4⟩
    · rw [k2 x h1] at h3; cases h3
    · have a := h4 y k1 k3
      have b := k4 x h1 h3
      have : x = y := by omega
      rw [h2, k2, this]
theorem x_scrape {g : JP} (hg : GOK g) {rows columns paints apart po0 po1 old shut : Int32} (hXU : XU g rows columns paints apart po0 po1 old shut) {all fc fit pg0 pg1 : Int32} {ro : Nat → Int32} (hX : XS g all fc fit pg0 pg1 ro) {w : JW} (hW : WOK g w) {F : Nat} (hF : 600 ≤ F) : ∃ r, fX8_leastScraped F old shut all fit ro (nI (wornS w.1)) = some r ∧ ScrA g w r := by
  obtain ⟨hn1, hn9, -, -⟩ := gn hg
  have hf := frS_lt w
  have hbc : fJ6_bitCount_0f7a4 (nI (frS w)) = some (nI (fb_ct (frS w).testBit 9)) := by rw [bitCount_ok (by omega), ct_32 hf]
  have hb9 := fb_ct_le (frS w).testBit 9
  -- the inner loop: all sets of k stones
  have inner : ∀ (k : Nat) (K : Int32 → Int32 → Option Int32), k ≤ 9 → ∀ m t, t + m = frS w + 1 → (∀ y, y < t → scr g w y = true → fb_ct y.testBit 9 ≠ k) →
      ((∃ x, x < 2 ^ 9 ∧ scr g w x = true ∧ fb_ct x.testBit 9 = k ∧ (∀ y, y < x → scr g w y = true → fb_ct y.testBit 9 ≠ k) ∧ ∀ f, m < f → jl_loop3 (bX8_leastScraped_25 F old shut all fit ro (nI (wornS w.1)) K) f (nI (frS w)) (nI k) (nI t) = some (nI x)) ∨
      ((∀ y, y < 2 ^ 9 → scr g w y = true → fb_ct y.testBit 9 ≠ k) ∧ ∀ f, m < f → jl_loop3 (bX8_leastScraped_25 F old shut all fit ro (nI (wornS w.1)) K) f (nI (frS w)) (nI k) (nI t) = K (nI (frS w)) (nI (k + 1)))) := by
    intro k K hk m
    induction m with
    | zero =>
      intro t ht hno
      right
      refine ⟨fun y hy hs e => ?_, fun f hf' => ?_⟩
      · have h1 : adn y (frS w) = 0 := by
          unfold scr at hs
          simp only [Bool.and_eq_true, decide_eq_true_eq] at hs
          exact hs.1
        have := sub_le hy hf h1
        exact hno y (by omega) hs e
      · obtain ⟨f', rfl⟩ : ∃ f', f = f' + 1 := ⟨f - 1, by omega⟩
        rw [jl_loop3_s]; unfold bX8_leastScraped_25
        rw [if_pos (by rw [nI_ltI (by omega) (by omega)]; omega), jl_let_eq]
        congr 1
        exact nI_add k 1
    | succ m ih =>
      intro t ht hno
      have hone : nI t + Int32.ofInt 1 = nI (t + 1) := nI_add t 1
      have ht9 : t < 2 ^ 9 := by omega
      have hbt : fJ6_bitCount_0f7a4 (nI t) = some (nI (fb_ct t.testBit 9)) := by rw [bitCount_ok (by omega), ct_32 ht9]
      have htl := fb_ct_le t.testBit 9
      by_cases hgood : scr g w t = true ∧ fb_ct t.testBit 9 = k
      · left
        refine ⟨t, ht9, hgood.1, hgood.2, hno, fun f hf' => ?_⟩
        obtain ⟨f', rfl⟩ : ∃ f', f = f' + 1 := ⟨f - 1, by omega⟩
        have hs := hgood.1
        unfold scr at hs
        simp only [Bool.and_eq_true, decide_eq_true_eq] at hs
        rw [jl_loop3_s]; unfold bX8_leastScraped_25 fX8_leastScraped_54
        rw [if_neg (by rw [nI_ltI (by omega) (by omega)]; omega), hbt, Option.bind_some, if_pos (by rw [hgood.2]), ni_m1, ni_adn, if_pos (by rw [hs.1]; rfl), if_neg (by decide), x_cwo ht9, Option.bind_some, hXU.2.2.2.2.2.2.2, x_canBeDone hg hX (hW.co hg (fun s q => sub_mem ht9 hs.1 q)) (by omega), Option.bind_some, decide_eq_true hs.2, if_t]
      · have hstep : ∀ f, jl_loop3 (bX8_leastScraped_25 F old shut all fit ro (nI (wornS w.1)) K) (f + 1) (nI (frS w)) (nI k) (nI t) = jl_loop3 (bX8_leastScraped_25 F old shut all fit ro (nI (wornS w.1)) K) f (nI (frS w)) (nI k) (nI (t + 1)) := by
          intro f
          rw [jl_loop3_s]
          generalize jl_loop3 (bX8_leastScraped_25 F old shut all fit ro (nI (wornS w.1)) K) f = L
          unfold bX8_leastScraped_25 fX8_leastScraped_53 fX8_leastScraped_54
          rw [if_neg (by rw [nI_ltI (by omega) (by omega)]; omega), hbt, Option.bind_some]
          by_cases e1 : fb_ct t.testBit 9 = k
          · rw [if_pos (by rw [e1]), ni_m1, ni_adn]
            by_cases e2 : adn t (frS w) = 0
            · have hs : ¬ waysN g (cwo w.1 t) ≠ 0 := fun q => hgood ⟨by unfold scr; simp [e2, q], e1⟩
              rw [if_pos (by rw [e2]; rfl), if_neg (by decide), x_cwo ht9, Option.bind_some, hXU.2.2.2.2.2.2.2, x_canBeDone hg hX (hW.co hg (fun s q => sub_mem ht9 e2 q)) (by omega), Option.bind_some, decide_eq_false hs, if_f, jl_let_eq, hone]
            · have hl : adn t (frS w) < 2 ^ 31 := adn_lt (by omega)
              rw [if_neg (by rw [show (0 : Int32) = nI 0 from rfl, nI_eq hl (by omega)]; exact e2), if_pos rfl, jl_let_eq, hone]
          · rw [if_neg (by rw [nI_eq (by omega) (by omega)]; exact e1), if_pos rfl, jl_let_eq, hone]
        have hno' : ∀ y, y < t + 1 → scr g w y = true → fb_ct y.testBit 9 ≠ k := by
          intro y hy hs e
          by_cases q : y = t
          · subst q; exact hgood ⟨hs, e⟩
          · exact hno y (by omega) hs e
        rcases ih (t + 1) (by omega) hno' with ⟨x, h1, h2, h3, h4, h5⟩ | ⟨h1, h2⟩
        · left
          refine ⟨x, h1, h2, h3, h4, fun f hf' => ?_⟩
          obtain ⟨f', rfl⟩ : ∃ f', f = f' + 1 := ⟨f - 1, by omega⟩
          rw [hstep]; exact h5 f' (by omega)
        · right
          refine ⟨h1, fun f hf' => ?_⟩
          obtain ⟨f', rfl⟩ : ∃ f', f = f' + 1 := ⟨f - 1, by omega⟩
          rw [hstep]; exact h2 f' (by omega)
  have outer : ∀ m k, k + m = fb_ct (frS w).testBit 9 + 1 → (∀ y, y < 2 ^ 9 → scr g w y = true → k ≤ fb_ct y.testBit 9) → ∃ r, ScrA g w r ∧ ∀ f, m < f → jl_loop2 (bX8_leastScraped_14 F old shut all fit ro (nI (wornS w.1))) f (nI (frS w)) (nI k) = some r := by
    intro m
    induction m with
    | zero =>
      intro k hk hno
      refine ⟨-4, Or.inl ⟨rfl, fun y hy => ?_⟩, fun f hf' => ?_⟩
      · cases hs : scr g w y with
        | false => rfl
        | true =>
          have h1 := hno y hy hs
          unfold scr at hs
          simp only [Bool.and_eq_true, decide_eq_true_eq] at hs
          have : fb_ct y.testBit 9 ≤ fb_ct (frS w).testBit 9 := fb_ct_sub (fun i hi q => by
            have := sub_mem hy hs.1 q
            unfold frS; rw [nb_tb]; simp [hi, this])
          omega
      · obtain ⟨f', rfl⟩ : ∃ f', f = f' + 1 := ⟨f - 1, by omega⟩
        rw [jl_loop2_s]; unfold bX8_leastScraped_14
        rw [hbc, Option.bind_some, if_pos (by rw [nI_ltI (by omega) (by omega)]; omega)]
    | succ m ih =>
      intro k hk hno
      have hun : ∀ f, jl_loop2 (bX8_leastScraped_14 F old shut all fit ro (nI (wornS w.1))) (f + 1) (nI (frS w)) (nI k) = jl_loop3 (bX8_leastScraped_25 F old shut all fit ro (nI (wornS w.1)) (jl_loop2 (bX8_leastScraped_14 F old shut all fit ro (nI (wornS w.1))) f)) F (nI (frS w)) (nI k) (nI 0) := by
        intro f
        rw [jl_loop2_s]
        generalize jl_loop2 (bX8_leastScraped_14 F old shut all fit ro (nI (wornS w.1))) f = L
        unfold bX8_leastScraped_14 lX8_leastScraped_25
        rw [hbc, Option.bind_some, if_neg (by rw [nI_ltI (by omega) (by omega)]; omega), show (0 : Int32) = nI 0 from rfl]
      by_cases hex : ∃ y, y < 2 ^ 9 ∧ scr g w y = true ∧ fb_ct y.testBit 9 = k
      · obtain ⟨y0, y1, y2, y3⟩ := hex
        rcases inner k (jl_loop2 (bX8_leastScraped_14 F old shut all fit ro (nI (wornS w.1))) 0) (by omega) (frS w + 1) 0 (by omega) (fun y hy => by omega) with ⟨x, h1, h2, h3, h4, -⟩ | ⟨h1, -⟩
        · refine ⟨nI x, Or.inr ⟨x, h1, rfl, h2, fun y hy hs => ?_⟩, fun f hf' => ?_⟩
          · have := hno y hy hs
            by_cases e : fb_ct y.testBit 9 = k
            · right
              refine ⟨by omega, ?_⟩
              rcases Nat.lt_or_ge y x with q | q
              · exact absurd e (h4 y q hs)
              · exact q
            · left; omega
          · obtain ⟨f', rfl⟩ : ∃ f', f = f' + 1 := ⟨f - 1, by omega⟩
            rw [hun]
            rcases inner k (jl_loop2 (bX8_leastScraped_14 F old shut all fit ro (nI (wornS w.1))) f') (by omega) (frS w + 1) 0 (by omega) (fun y hy => by omega) with ⟨x', k1, k2, k3, k4, k5⟩ | ⟨k1, -⟩
            · have : x' = x := by
                rcases Nat.lt_trichotomy x' x with q | q | q
                · exact absurd k3 (h4 x' q k2)
                · exact q
                · exact absurd h3 (k4 x q h2)
              rw [this] at k5
              exact k5 F (by omega)
            · exact absurd y3 (k1 y0 y1 y2)
        · exact absurd y3 (h1 y0 y1 y2)
      · obtain ⟨r, r1, r2⟩ := ih (k + 1) (by omega) (fun y hy hs => by
          have := hno y hy hs
          have : fb_ct y.testBit 9 ≠ k := fun e => hex ⟨y, hy, hs, e⟩
          omega)
        refine ⟨r, r1, fun f hf' => ?_⟩
        obtain ⟨f', rfl⟩ : ∃ f', f = f' + 1 := ⟨f - 1, by omega⟩
        rw [hun]
        rcases inner k (jl_loop2 (bX8_leastScraped_14 F old shut all fit ro (nI (wornS w.1))) f') (by omega) (frS w + 1) 0 (by omega) (fun y hy => by omega) with ⟨x, h1, h2, h3, h4, -⟩ | ⟨-, h2⟩
        · exact absurd ⟨x, h1, h2, h3⟩ hex
        · rw [h2 F (by omega)]; exact r2 f' (by omega)
  obtain ⟨r, r1, r2⟩ := outer (fb_ct (frS w).testBit 9 + 1) 0 (by omega) (fun y _ _ => Nat.zero_le _)
  refine ⟨r, ?_, r1⟩
  have hpl : fX3_painted (nI (wornS w.1) &&& (old ^^^ (-1 : Int32))) = some (nI (frS w)) := by
    rw [hXU.2.2.2.2.2.2.1]; exact x_looseP hg hW
  unfold fX8_leastScraped lX8_leastScraped_14
  rw [hpl, Option.bind_some]
  exact r2 F (by omega)
theorem in01 (p : Int32) : fX10_in p.toInt64 0 1 = some (nI (isN p 2).toNat) := by
  rw [in_ok, i2l_toInt, show (0 : Int64).toInt = 0 from by decide, show (1 : Int64).toInt = 1 from by decide]
  unfold isN
  have : decide (p.toInt ≤ 1) = decide (p.toInt < (2 : Nat)) := by apply decide_eq_decide.mpr; omega
  rw [this]
theorem is01 {p : Int32} (h : isN p 2 = true) : p = 0 ∨ p = 1 := by
  obtain ⟨k, k1, -, rfl⟩ := isN_iff.mp h
  rcases (show k = 0 ∨ k = 1 by omega) with rfl | rfl
  · exact Or.inl rfl
  · exact Or.inr rfl
theorem no01 {p : Int32} (h : isN p 2 = false) : ¬ p = 0 ∧ ¬ p = 1 := by
  constructor
  · rintro rfl; exact absurd h (by decide)
  · rintro rfl; exact absurd h (by decide)
theorem neg4 {x : Nat} (h : x < 2 ^ 31) : ¬ nI x = -4 := by
  intro e
  have h1 := nI_pos h
  rw [e] at h1
  exact h1 (by decide)
theorem scrape_m {g : JP} (hg : GOK g) {stones : Int32} {told touches has old beside : Nat → Int32} (hM : MR g stones told touches has old beside) {w : JW} (hW : WOK g w) {slot : Nat → Int32} (hSW : SW slot 0 w) (p1 fr fw : Int32) (free : Nat → Int32) : ∃ v r fr2 fw2 s2 free2, lX10_scrape_17 FU stones told touches beside p1 FU (-4) 0 fr fw slot free = some (v, fr2, fw2, s2, free2) ∧ ScrA g w r ∧ (∀ j, j < 220 → s2 j = slot j) ∧ ((r = -4 ∧ v = -4) ∨ (∃ x, x < 2 ^ 9 ∧ r = nI x ∧ v = if p1 = 1 then nI x else nI (fb_ct x.testBit 9))) := by
  obtain ⟨hn1, hn9, -, -⟩ := gn hg
  have hpn : 2 ^ pn g ≤ 2 ^ 9 := Nat.pow_le_pow_right (by omega) hn9
  have hsh : (1 : Int32) <<< (stones &&& 31) = nI (2 ^ pn g) := by rw [hM.1]; exact one_shl (by omega)
  -- what is found below t
  let Fd : Nat → Int32 → Prop := fun t r => (r = -4 ∧ ∀ y, y < t → scr g w y = false) ∨ ∃ x, x < t ∧ r = nI x ∧ scr g w x = true ∧ ∀ y, y < t → scr g w y = true → fb_ct x.testBit 9 < fb_ct y.testBit 9 ∨ (fb_ct x.testBit 9 = fb_ct y.testBit 9 ∧ x ≤ y)
  have key : ∀ m t r fr fw (sl free : Nat → Int32), t + m = 2 ^ pn g → (∀ j, j < 220 → sl j = slot j) → Fd t r → ∃ v r' fr2 fw2 s2 free2, (∀ f, m < f → jl_loop6 (bX10_scrape_17 FU stones told touches beside p1) f r (nI t) fr fw sl free = some (v, fr2, fw2, s2, free2)) ∧ Fd (2 ^ pn g) r' ∧ (∀ j, j < 220 → s2 j = slot j) ∧ ((r' = -4 ∧ v = -4) ∨ (∃ x, x < 2 ^ 9 ∧ r' = nI x ∧ v = if p1 = 1 then nI x else nI (fb_ct x.testBit 9))) := by
    intro m
    induction m with
    | zero =>
      intro t r fr fw sl free ht hk hF
      have ht : t = 2 ^ pn g := by omega
      subst ht
      rcases hF with ⟨h1, h2⟩ | ⟨x, h1, h2, h3⟩
      · refine ⟨-4, r, fr, fw, sl, free, fun f hf => ?_, Or.inl ⟨h1, h2⟩, hk, Or.inl ⟨h1, rfl⟩⟩
        obtain ⟨f', rfl⟩ : ∃ f', f = f' + 1 := ⟨f - 1, by omega⟩
        rw [jl_loop6_s]; unfold bX10_scrape_17
        rw [hsh, if_pos (by rw [nI_leI (by omega) (by omega)]; exact Nat.le_refl _), h1, if_pos (by decide)]
      · refine ⟨if p1 = 1 then nI x else nI (fb_ct x.testBit 9), r, fr, fw, sl, free, fun f hf => ?_, Or.inr ⟨x, h1, h2, h3⟩, hk, Or.inr ⟨x, by omega, h2, rfl⟩⟩
        obtain ⟨f', rfl⟩ : ∃ f', f = f' + 1 := ⟨f - 1, by omega⟩
        rw [jl_loop6_s]; unfold bX10_scrape_17
        rw [hsh, if_pos (by rw [nI_leI (by omega) (by omega)]; exact Nat.le_refl _), h2, if_neg (nI_pos (by omega))]
        by_cases e : p1 = 1
        · rw [if_pos e, if_pos e]
        · rw [if_neg e, if_neg e, many_ok (by omega) (FU_ge (by omega)), Option.bind_some]
    | succ m ih =>
      intro t r fr fw sl free ht hk hF
      have ht9 : t < 2 ^ 9 := by omega
      have hone : nI t + Int32.ofInt 1 = nI (t + 1) := nI_add t 1
      have hSl : SW sl 0 w := hSW.kept (hW.len9 hg) (fun j _ j2 => hk j (by omega))
      have hfr := fresh_ok hg hW hSl (FU_ge (n := 10) (by omega))
      have hlt : adn t (frS w) < 2 ^ 31 := adn_lt (by omega)
      have hpre : ∀ (E : Option (Int32 × Int32 × Int32 × (Nat → Int32) × (Nat → Int32))) (K : Int32 → Int32 → Int32 → Int32 → (Nat → Int32) → (Nat → Int32) → Option (Int32 × Int32 × Int32 × (Nat → Int32) × (Nat → Int32))), (if nI (adn t (frS w)) = 0 then (if r < 0 then fX10_scrape_53 FU stones told touches beside p1 K r (nI t) fr fw sl free else ((fX10_many FU (nI t)).bind fun r25 => ((fX10_many FU r).bind fun r27 => (if r27 ≤ r25 then K r (nI (t + 1)) fr fw sl free else fX10_scrape_53 FU stones told touches beside p1 K r (nI t) fr fw sl free)))) else K r (nI (t + 1)) fr fw sl free) = E → bX10_scrape_17 FU stones told touches beside p1 K r (nI t) fr fw sl free = E := by
        intro E K hE
        unfold bX10_scrape_17
        rw [hsh, if_neg (by rw [nI_leI (by omega) (by omega)]; omega), hfr, Option.bind_some, ni_m1, ni_adn]
        simp only [jl_let_eq, hone]
        exact hE
      have hmt : fX10_many FU (nI t) = some (nI (fb_ct t.testBit 9)) := many_ok (by omega) (FU_ge (by omega))
      have ht_le := fb_ct_le t.testBit 9
      -- t is looked at, or not
      have skip : Fd (t + 1) r → (∀ K : Int32 → Int32 → Int32 → Int32 → (Nat → Int32) → (Nat → Int32) → Option (Int32 × Int32 × Int32 × (Nat → Int32) × (Nat → Int32)), bX10_scrape_17 FU stones told touches beside p1 K r (nI t) fr fw sl free = K r (nI (t + 1)) fr fw sl free) → ∃ v r' fr2 fw2 s2 free2, (∀ f, m + 1 < f → jl_loop6 (bX10_scrape_17 FU stones told touches beside p1) f r (nI t) fr fw sl free = some (v, fr2, fw2, s2, free2)) ∧ Fd (2 ^ pn g) r' ∧ (∀ j, j < 220 → s2 j = slot j) ∧ ((r' = -4 ∧ v = -4) ∨ (∃ x, x < 2 ^ 9 ∧ r' = nI x ∧ v = if p1 = 1 then nI x else nI (fb_ct x.testBit 9))) := by
        intro h1 h2
        obtain ⟨v, r', fr2, fw2, s2, free2, k1, k2⟩ := ih (t + 1) r fr fw sl free (by omega) hk h1
        refine ⟨v, r', fr2, fw2, s2, free2, fun f hf => ?_, k2⟩
        obtain ⟨f', rfl⟩ : ∃ f', f = f' + 1 := ⟨f - 1, by omega⟩
        rw [jl_loop6_s, h2]; exact k1 f' (by omega)
      have look : adn t (frS w) = 0 → Fd (t + 1) (if waysN g (cwo w.1 t) = 0 then r else nI t) → (∀ K : Int32 → Int32 → Int32 → Int32 → (Nat → Int32) → (Nat → Int32) → Option (Int32 × Int32 × Int32 × (Nat → Int32) × (Nat → Int32)), bX10_scrape_17 FU stones told touches beside p1 K r (nI t) fr fw sl free = fX10_scrape_53 FU stones told touches beside p1 K r (nI t) fr fw sl free) → ∃ v r' fr2 fw2 s2 free2, (∀ f, m + 1 < f → jl_loop6 (bX10_scrape_17 FU stones told touches beside p1) f r (nI t) fr fw sl free = some (v, fr2, fw2, s2, free2)) ∧ Fd (2 ^ pn g) r' ∧ (∀ j, j < 220 → s2 j = slot j) ∧ ((r' = -4 ∧ v = -4) ∨ (∃ x, x < 2 ^ 9 ∧ r' = nI x ∧ v = if p1 = 1 then nI x else nI (fb_ct x.testBit 9))) := by
        intro h0 h1 h2
        obtain ⟨fr3, fw3, s3, free3, w1, w2⟩ := without_ok hg hM hW hSl ht9 fr fw free
        obtain ⟨v, r', fr2, fw2, s2, free2, k1, k2⟩ := ih (t + 1) _ fr3 fw3 s3 free3 (by omega) (fun j hj => by rw [w2 j hj]; exact hk j hj) h1
        refine ⟨v, r', fr2, fw2, s2, free2, fun f hf => ?_, k2⟩
        obtain ⟨f', rfl⟩ : ∃ f', f = f' + 1 := ⟨f - 1, by omega⟩
        rw [jl_loop6_s, h2]
        have hr := k1 f' (by omega)
        generalize jl_loop6 (bX10_scrape_17 FU stones told touches beside p1) f' = K at hr ⊢
        unfold fX10_scrape_53 fX10_scrape_66
        rw [w1, Option.bind_some]
        simp only [jl_let_eq, hone]
        have hwl := waysN_le hg (cwo w.1 t)
        by_cases hz : waysN g (cwo w.1 t) = 0
        · rw [if_pos (by rw [hz]; decide)]
          rw [if_pos hz] at hr; exact hr
        · rw [if_neg (by rw [show (0 : Int32) = nI 0 from rfl, nI_leI (by omega) (by omega)]; omega)]
          rw [if_neg hz] at hr; exact hr
      by_cases hsub : adn t (frS w) = 0
      · have hscr : scr g w t = decide (waysN g (cwo w.1 t) ≠ 0) := by unfold scr; rw [decide_eq_true hsub, Bool.true_and]
        rcases hF with ⟨h1, h2⟩ | ⟨x, h1, h2, h3, h4⟩
        · refine look hsub ?_ (fun K => hpre _ K (by rw [hsub, if_00, if_pos (by rw [h1]; decide)]))
          by_cases hz : waysN g (cwo w.1 t) = 0
          · rw [if_pos hz]
            refine Or.inl ⟨h1, fun y hy => ?_⟩
            by_cases e : y = t
            · rw [e, hscr]; exact decide_eq_false (fun q => q hz)
            · exact h2 y (by omega)
          · rw [if_neg hz]
            refine Or.inr ⟨t, by omega, rfl, by rw [hscr]; exact decide_eq_true hz, fun y hy hs => ?_⟩
            by_cases e : y = t
            · rw [e]; exact Or.inr ⟨rfl, Nat.le_refl _⟩
            · rw [h2 y (by omega)] at hs; cases hs
        · have hmx : fX10_many FU r = some (nI (fb_ct x.testBit 9)) := by rw [h2]; exact many_ok (by omega) (FU_ge (by omega))
          have hx_le := fb_ct_le x.testBit 9
          have hrp : ¬ r < 0 := by rw [h2]; exact nI_pos (by omega)
          by_cases hmm : fb_ct x.testBit 9 ≤ fb_ct t.testBit 9
          · refine skip (Or.inr ⟨x, by omega, h2, h3, fun y hy hs => ?_⟩) (fun K => hpre _ K (by rw [hsub, if_00, if_neg hrp, hmt, Option.bind_some, hmx, Option.bind_some, if_pos (by rw [nI_leI (by omega) (by omega)]; exact hmm)]))
            by_cases e : y = t
            · rw [e]; omega
            · exact h4 y (by omega) hs
          · refine look hsub ?_ (fun K => hpre _ K (by rw [hsub, if_00, if_neg hrp, hmt, Option.bind_some, hmx, Option.bind_some, if_neg (by rw [nI_leI (by omega) (by omega)]; exact hmm)]))
            by_cases hz : waysN g (cwo w.1 t) = 0
            · rw [if_pos hz]
              refine Or.inr ⟨x, by omega, h2, h3, fun y hy hs => ?_⟩
              by_cases e : y = t
              · rw [e, hscr] at hs
                exact absurd hz (of_decide_eq_true hs)
              · exact h4 y (by omega) hs
            · rw [if_neg hz]
              refine Or.inr ⟨t, by omega, rfl, by rw [hscr]; exact decide_eq_true hz, fun y hy hs => ?_⟩
              by_cases e : y = t
              · rw [e]; exact Or.inr ⟨rfl, Nat.le_refl _⟩
              · have := h4 y (by omega) hs
                left; omega
      · refine skip ?_ (fun K => hpre _ K (by rw [if_neg (by rw [show (0 : Int32) = nI 0 from rfl, nI_eq hlt (by omega)]; exact hsub)]))
        have hscr : scr g w t = false := by unfold scr; rw [decide_eq_false hsub, Bool.false_and]
        rcases hF with ⟨h1, h2⟩ | ⟨x, h1, h2, h3, h4⟩
        · refine Or.inl ⟨h1, fun y hy => ?_⟩
          by_cases e : y = t
          · rw [e]; exact hscr
          · exact h2 y (by omega)
        · refine Or.inr ⟨x, by omega, h2, h3, fun y hy hs => ?_⟩
          by_cases e : y = t
          · rw [e, hscr] at hs; cases hs
          · exact h4 y (by omega) hs
  obtain ⟨v, r', fr2, fw2, s2, free2, k1, k2, k3, k4⟩ := key (2 ^ pn g) 0 (-4) fr fw slot free (by omega) (fun _ _ => rfl) (Or.inl ⟨rfl, fun y hy => absurd hy (Nat.not_lt_zero y)⟩)
  refine ⟨v, r', fr2, fw2, s2, free2, k1 FU (FU_ge (by omega)), ?_, k3, k4⟩
  -- a set of stones that are painted is below 2 ^ n
  have hall : ∀ y, y < 2 ^ 9 → scr g w y = true → y < 2 ^ pn g := by
    intro y hy hs
    unfold scr at hs
    simp only [Bool.and_eq_true, decide_eq_true_eq] at hs
    have e : y = nb (pn g) y.testBit := by
      apply Nat.eq_of_testBit_eq; intro i
      rw [nb_tb]
      by_cases hi : i < pn g
      · simp [hi]
      · have : y.testBit i = false := by
          cases h : y.testBit i with
          | false => rfl
          | true => exact absurd (hW.lt hg (sub_mem hy hs.1 h)).1 hi
        rw [this]; simp
    rw [e]; exact nb_lt _ _
  rcases k2 with ⟨h1, h2⟩ | ⟨x, h1, h2, h3, h4⟩
  · refine Or.inl ⟨h1, fun y hy => ?_⟩
    cases hs : scr g w y with
    | false => rfl
    | true => rw [h2 y (hall y hy hs)] at hs; cases hs
  · exact Or.inr ⟨x, by omega, h2, h3, fun y hy hs => h4 y (hall y hy hs) hs⟩
theorem st_scrape : St_scrape Inv_ := by
  intro x_text_length x_text_bytes_ x_reader_at x_reader_first x_reader_second x_reader_stoneTold x_reader_paintTold x_wall_worn x_wall_turn x_wall_order x_wall_pastLength x_wall_heldLength x_wall_past_ x_wall_held_ x_row_length x_row_paintings_ x_game_known_ x_lot_above x_lot_below x_laid_rows x_laid_columns x_laid_paints x_laid_apart x_laid_paintsOf0 x_laid_paintsOf1 x_laid_old x_laid_shut x_laid_all x_laid_firstColumn x_laid_fitsAtFirst x_laid_paintingsOf0 x_laid_paintingsOf1 x_laid_ruledOut_ x_spare_rows x_spare_columns x_spare_paints x_spare_apart x_spare_paintsOf0 x_spare_paintsOf1 x_spare_old x_spare_shut x_spare_all x_spare_firstColumn x_spare_fitsAtFirst x_spare_paintingsOf0 x_spare_paintingsOf1 x_spare_ruledOut_ y_length y_at y_stones y_kept y_done y_rows y_frees y_fewest y_text_ y_told_ y_touches_ y_has_ y_old_ y_beside_ y_slot_ y_row_ y_free_ y_worth_ y_fore_ y_back_ y_got_
  intro p1 hI
  have hI0 := hI
  replace hI : InvC x_text_length x_text_bytes_ x_reader_at x_reader_first x_reader_second x_reader_stoneTold x_reader_paintTold x_wall_worn x_wall_turn x_wall_order x_wall_pastLength x_wall_heldLength x_wall_past_ x_wall_held_ x_row_length x_row_paintings_ x_game_known_ x_lot_above x_lot_below x_laid_rows x_laid_columns x_laid_paints x_laid_apart x_laid_paintsOf0 x_laid_paintsOf1 x_laid_old x_laid_shut x_laid_all x_laid_firstColumn x_laid_fitsAtFirst x_laid_paintingsOf0 x_laid_paintingsOf1 x_laid_ruledOut_ x_spare_rows x_spare_columns x_spare_paints x_spare_apart x_spare_paintsOf0 x_spare_paintsOf1 x_spare_old x_spare_shut x_spare_all x_spare_firstColumn x_spare_fitsAtFirst x_spare_paintingsOf0 x_spare_paintingsOf1 x_spare_ruledOut_ y_length y_at y_stones y_kept y_done y_rows y_frees y_fewest y_text_ y_told_ y_touches_ y_has_ y_old_ y_beside_ y_slot_ y_row_ y_free_ y_worth_ y_fore_ y_back_ y_got_ := hI
  obtain ⟨g, w, d, ps, e, ks, r, rs, len, hg, hIT, hXU, hXS, hMR, hIW, hIP, hIH, hIR, hMem⟩ := hI
  obtain ⟨hW, rfl, rfl, rfl, hSW⟩ := hIW
  cases hp : isN p1 2
  · obtain ⟨n0, n1⟩ := no01 hp
    refine ⟨-1, ((-1 : Int32), y_frees, y_fewest, y_slot_, y_free_), ?_, ?_, Eq.refl (-1 : Int32), hI0⟩
    · unfold fX9_scrape
      rw [if_neg n0, if_neg n1]
    · unfold fX10_scrape
      rw [in01, hp]; rfl
  · obtain ⟨q, x1, x2⟩ := x_scrape hg hXU hXS hW (FU_ge (n := 600) (by omega))
    obtain ⟨v, q', fr2, fw2, s2, free2, m1, m2, m3, m4⟩ := scrape_m hg hMR hW hSW p1 y_frees y_fewest y_free_
    have hrr := x2.one m2
    subst hrr
    have hX : fX9_scrape_11 FU (nI (wornS w.1)) x_laid_old x_laid_shut x_laid_all x_laid_fitsAtFirst x_laid_ruledOut_ p1 = some v := by
      unfold fX9_scrape_11
      rw [x1, Option.bind_some]
      rcases m4 with ⟨q1, q2⟩ | ⟨x, q1, q2, q3⟩
      · rw [if_pos q1, q1, q2]
      · rw [q2, if_neg (neg4 (by omega)), q3]
        by_cases e : p1 = 1
        · rw [if_pos e, if_pos e]
        · rw [if_neg e, if_neg e, bitCount_ok (by omega), Option.bind_some, ct_32 q1]
    refine ⟨v, (v, fr2, fw2, s2, free2), ?_, ?_, Eq.refl v, ?_⟩
    · unfold fX9_scrape
      by_cases e : p1 = 0
      · rw [if_pos e]; exact hX
      · rw [if_neg e, if_pos ((is01 hp).resolve_left e)]; exact hX
    · unfold fX10_scrape
      rw [in01, hp, Option.bind_some, if_t]; exact m1
    · obtain ⟨z1, z2, z3⟩ := slot_low hg hW hSW hIP hIH m3
      exact ⟨g, w, d, ps, e, ks, r, rs, len, hg, hIT, hXU, hXS, hMR, ⟨hW, rfl, rfl, rfl, z1⟩, z2, z3, hIR, hMem⟩
