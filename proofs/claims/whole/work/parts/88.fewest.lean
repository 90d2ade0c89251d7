/-! the fewest unlike paints -/
/-- a way keeps what is painted; with the paints that are on it, it is a way too -/
theorem fil_mem {g : JP} {Q : Nat → Bool} {c' : Nat → Nat} : ∀ (l : List Nat) (c : Nat → Nat), c' ∈ fil g Q l c → l.Nodup → (∀ t, t ∉ l → c' t = c t) ∧ (∀ t ∈ l, 1 ≤ c' t ∧ c' t ≤ pP g ∧ Q (c' t) = true) ∧ (∀ Q' : Nat → Bool, (∀ t ∈ l, Q' (c' t) = true) → c' ∈ fil g Q' l c) := by
  intro l
  induction l with
  | nil =>
    intro c h _
    have : c' = c := by simpa [fil] using h
    subst this
    refine ⟨fun t _ => rfl, fun t ht => absurd ht List.not_mem_nil, fun Q' _ => ?_⟩
    simp [fil]
  | cons s l ih =>
    intro c h hd
    rw [List.nodup_cons] at hd
    simp only [fil, List.mem_flatMap, List.mem_range'_1] at h
    obtain ⟨p, hp, hm⟩ := h
    cases hk : ok1 g Q c s p with
    | false => rw [hk, if_neg (by decide)] at hm; cases hm
    | true =>
      rw [hk, if_pos rfl] at hm
      obtain ⟨i1, i2, i3⟩ := ih _ hm hd.2
      have hs : c' s = p := by rw [i1 s hd.1]; unfold upc; rw [if_pos rfl]
      have hk2 := hk
      unfold ok1 at hk2
      simp only [Bool.and_eq_true, decide_eq_true_eq] at hk2
      refine ⟨fun t ht => ?_, fun t ht => ?_, fun Q' hQ => ?_⟩
      · rw [List.mem_cons, not_or] at ht
        rw [i1 t ht.2]; unfold upc; rw [if_neg ht.1]
      · rcases List.mem_cons.mp ht with e | e
        · rw [e, hs]; exact ⟨by omega, hk2.2.1, hk2.1⟩
        · exact i2 t e
      · simp only [fil, List.mem_flatMap, List.mem_range'_1]
        refine ⟨p, hp, ?_⟩
        have : ok1 g Q' c s p = true := by
          unfold ok1
          have h1 := hQ s List.mem_cons_self
          rw [hs] at h1
          rw [h1, hk2.2.2, decide_eq_true hk2.2.1]; rfl
        rw [this, if_pos rfl]
        exact i3 Q' (fun t ht => hQ t (List.mem_cons_of_mem _ ht))
/-- the paints on a wall, as a set -/
def usS (g : JP) (c : Nat → Nat) : Nat := nb 3 (fun j => usd c (j + 1) (pn g))
theorem unl_us {g : JP} (c : Nat → Nat) : unl g c = fb_ct (usS g c).testBit 3 := by
  unfold unl usS
  rw [ct_nb (by omega), ct_nb (Nat.le_refl 3), show (4 : Nat) = 1 + 3 from rfl, fb_ct_split]
  have : fb_ct (fun p => decide (1 ≤ p) && usd c p (pn g)) 1 = 0 := fb_ct_zero.mpr (fun k hk => by
    have : ¬ 1 ≤ k := by omega
    simp [this])
  rw [this, Nat.zero_add]
  exact fb_ct_cong (fun k _ => by
    rw [Nat.add_comm 1 k]
    have : 1 ≤ k + 1 := by omega
    simp [this])
theorem fewI_fold {g : JP} : ∀ (L : List (Nat → Nat)) (a : Nat), a ≤ 9 → ∃ r, L.foldl (stp g) (nI a) = nI r ∧ r ≤ a ∧ (r = a ∨ ∃ c ∈ L, r = unl g c) ∧ ∀ c ∈ L, r ≤ unl g c := by
  intro L
  induction L with
  | nil => intro a _; exact ⟨a, rfl, Nat.le_refl a, Or.inl rfl, fun c h => by cases h⟩
  | cons c L ih =>
    intro a ha
    have hu := unl_le g c
    rw [List.foldl_cons]
    by_cases h : a ≤ unl g c
    · have : stp g (nI a) c = nI a := by
        unfold stp
        rw [if_neg (nI_pos (by omega)), if_pos (by rw [nI_leI (by omega) (by omega)]; exact h)]
      rw [this]
      obtain ⟨r, h1, h2, h3, h4⟩ := ih a ha
      refine ⟨r, h1, h2, ?_, fun c' hc' => ?_⟩
      · rcases h3 with h3 | ⟨c', h3, h5⟩
        · exact Or.inl h3
        · exact Or.inr ⟨c', List.mem_cons_of_mem _ h3, h5⟩
      · rcases List.mem_cons.mp hc' with e | e
        · rw [e]; omega
        · exact h4 c' e
    · have : stp g (nI a) c = nI (unl g c) := by
        unfold stp
        rw [if_neg (nI_pos (by omega)), if_neg (by rw [nI_leI (by omega) (by omega)]; exact h)]
      rw [this]
      obtain ⟨r, h1, h2, h3, h4⟩ := ih (unl g c) hu
      refine ⟨r, h1, by omega, ?_, fun c' hc' => ?_⟩
      · rcases h3 with h3 | ⟨c', h3, h5⟩
        · exact Or.inr ⟨c, List.mem_cons_self, h3⟩
        · exact Or.inr ⟨c', List.mem_cons_of_mem _ h3, h5⟩
      · rcases List.mem_cons.mp hc' with e | e
        · rw [e]; omega
        · exact h4 c' e
theorem fewI_min {g : JP} {c : Nat → Nat} (h : waysN g c ≠ 0) : ∃ r, fewI g c = nI r ∧ (∃ c' ∈ fil g allP (zl c (pn g) 0) c, r = unl g c') ∧ ∀ c' ∈ fil g allP (zl c (pn g) 0) c, r ≤ unl g c' := by
  unfold waysN at h
  unfold fewI
  cases hL : fil g allP (zl c (pn g) 0) c with
  | nil => rw [hL] at h; exact absurd rfl h
  | cons c1 L =>
    rw [List.foldl_cons]
    have : stp g (-4) c1 = nI (unl g c1) := by unfold stp; rw [if_pos (by decide)]
    rw [this]
    obtain ⟨r, h1, h2, h3, h4⟩ := fewI_fold L (unl g c1) (unl_le g c1)
    refine ⟨r, h1, ?_, fun c' hc' => ?_⟩
    · rcases h3 with h3 | ⟨c', h3, h5⟩
      · exact ⟨c1, List.mem_cons_self, h3⟩
      · exact ⟨c', List.mem_cons_of_mem _ h3, h5⟩
    · rcases List.mem_cons.mp hc' with e | e
      · rw [e]; exact h2
      · exact h4 c' e
/-- a set of paints that is enough -/
def qP (q : Nat) : Nat → Bool := fun p => q.testBit (p - 1)
def fwg (g : JP) (c : Nat → Nat) (k q : Nat) : Bool := decide (fb_ct q.testBit 32 = k) && (decide (adn (usS g c) q = 0) && decide ((fil g (qP q) (zl c (pn g) 0) c).length ≠ 0))
theorem fwg_some {g : JP} {c : Nat → Nat} {k q : Nat} (hq : q < 8) (h : fwg g c k q = true) : ∃ c' ∈ fil g allP (zl c (pn g) 0) c, unl g c' ≤ k := by
  unfold fwg at h
  simp only [Bool.and_eq_true, decide_eq_true_eq] at h
  obtain ⟨h1, h2, h3⟩ := h
  cases hL : fil g (qP q) (zl c (pn g) 0) c with
  | nil => rw [hL] at h3; exact absurd rfl h3
  | cons c' L =>
    have hm : c' ∈ fil g (qP q) (zl c (pn g) 0) c := by rw [hL]; exact List.mem_cons_self
    obtain ⟨i1, i2, i3⟩ := fil_mem _ _ hm (zl_nodup _ _)
    refine ⟨c', i3 allP (fun _ _ => rfl), ?_⟩
    rw [unl_us, ← h1]
    have e32 : fb_ct q.testBit 32 = fb_ct q.testBit 3 := by
      have e := nb_of (n := 3) hq
      rw [← e, ct_nb (by omega), ct_nb (Nat.le_refl 3)]
    rw [e32]
    refine fb_ct_sub (fun j hj hu => ?_)
    unfold usS at hu
    rw [nb_tb] at hu
    simp only [Bool.and_eq_true, decide_eq_true_eq, usd_iff] at hu
    obtain ⟨-, s, s1, s2⟩ := hu
    by_cases hs : s ∈ zl c (pn g) 0
    · have := (i2 s hs).2.2
      unfold qP at this
      rw [s2, Nat.add_sub_cancel] at this
      exact this
    · have hc := i1 s hs
      have hb := congrArg (fun z => z.testBit j) h2
      simp only [adn_tb (show usS g c < 2 ^ 32 from Nat.lt_of_lt_of_le (nb_lt 3 _) (by omega)), Nat.zero_testBit] at hb
      have hu : (usS g c).testBit j = true := by
        unfold usS
        rw [nb_tb, decide_eq_true hj, Bool.true_and, usd_iff]
        exact ⟨s, s1, by rw [← hc, s2]⟩
      rw [hu] at hb
      simpa using hb
theorem fwg_of {g : JP} (hP3' : pP g ≤ 3) {c : Nat → Nat} (hcP : ∀ s, c s ≤ pP g ∨ c s = 9) {c' : Nat → Nat} (h : c' ∈ fil g allP (zl c (pn g) 0) c) : usS g c' < 2 ^ pP g ∧ fwg g c (unl g c') (usS g c') = true := by
  obtain ⟨i1, i2, i3⟩ := fil_mem _ _ h (zl_nodup _ _)
  have hP : ∀ s, s < pn g → c' s ≤ pP g ∨ c' s = 9 := by
    intro s hs
    by_cases hz : s ∈ zl c (pn g) 0
    · exact Or.inl (i2 s hz).2.1
    · rw [i1 s hz]; exact hcP s
  constructor
  · have e : usS g c' = nb (pP g) (usS g c').testBit := by
      apply Nat.eq_of_testBit_eq; intro j
      rw [nb_tb]
      by_cases hj : j < pP g
      · simp [hj]
      · have : (usS g c').testBit j = false := by
          cases hb : (usS g c').testBit j with
          | false => rfl
          | true =>
            unfold usS at hb
            rw [nb_tb] at hb
            simp only [Bool.and_eq_true, decide_eq_true_eq, usd_iff] at hb
            obtain ⟨hj3, s, s1, s2⟩ := hb
            have := hP s s1
            omega
        rw [this]; simp
    rw [e]; exact nb_lt _ _
  · unfold fwg
    simp only [Bool.and_eq_true, decide_eq_true_eq]
    refine ⟨?_, ?_, ?_⟩
    · rw [unl_us]
      have e := nb_of (n := 3) (m := usS g c') (nb_lt 3 _)
      rw [← e, ct_nb (by omega), ct_nb (Nat.le_refl 3)]
    · apply Nat.eq_of_testBit_eq; intro j
      rw [adn_tb (show usS g c < 2 ^ 32 from Nat.lt_of_lt_of_le (nb_lt 3 _) (by omega)), Nat.zero_testBit]
      cases hb : (usS g c).testBit j with
      | false => rfl
      | true =>
        unfold usS at hb
        rw [nb_tb] at hb
        simp only [Bool.and_eq_true, decide_eq_true_eq, usd_iff] at hb
        obtain ⟨hj3, s, s1, s2⟩ := hb
        have hz : s ∉ zl c (pn g) 0 := fun e => by
          have := ((zl_mem (pn g) 0).mp e).2.2; omega
        have : (usS g c').testBit j = true := by
          unfold usS
          rw [nb_tb, decide_eq_true hj3, Bool.true_and, usd_iff]
          exact ⟨s, s1, by rw [i1 s hz]; exact s2⟩
        rw [this]; rfl
    · have hm : c' ∈ fil g (qP (usS g c')) (zl c (pn g) 0) c := i3 _ (fun t ht => by
        have h2 := i2 t ht
        have ht2 := (zl_mem (pn g) 0).mp ht
        unfold qP usS
        have hP3 := hP t (by omega)
        rw [nb_tb]
        have h3 : c' t - 1 < 3 := by omega
        rw [decide_eq_true h3, Bool.true_and, usd_iff]
        exact ⟨t, by omega, by omega⟩)
      intro e
      rw [List.length_eq_zero_iff.mp e] at hm; cases hm
theorem x_paintsIn {g : JP} (hg : GOK g) {c : Nat → Nat} (hc : CG g c) {F : Nat} (hF : 5 ≤ F) : fX8_paintsIn F (nI (wornS c)) = some (nI (usS g c)) := by
  obtain ⟨hn1, hn9, -, -⟩ := gn hg
  unfold fX8_paintsIn lX8_paintsIn_4
  refine jl_run2 (fun d x y => ∃ t, y = nI (t + 1) ∧ t + d = 3 ∧ x = nI (nb 3 (fun j => decide (j < t) && usd c (j + 1) (pn g)))) ?_ F 3 _ _ ⟨0, rfl, rfl, by rw [nb_cong (g := fun _ => false) (fun i _ => by simp)]; rfl⟩ (by omega)
  rintro d x y ⟨t, rfl, hd, rfl⟩
  rcases Nat.eq_zero_or_pos d with h0 | h0
  · left; intro k
    have : t = 3 := by omega
    subst this
    unfold bX8_paintsIn_4
    rw [if_pos (by decide)]
    exact congrArg (fun z => some (nI z)) (nb_cong (fun j hj => by simp [hj]))
  · right
    refine ⟨d - 1, _, _, by omega, ⟨t + 1, rfl, by omega, rfl⟩, ?_⟩
    intro k
    unfold bX8_paintsIn_4 fX8_paintsIn_27
    have hone : nI (t + 1) + Int32.ofInt 1 = nI (t + 1 + 1) := nI_add (t + 1) 1
    have hm1 : nI (t + 1) - (1 : Int32) = nI t := nI_pred t
    rw [if_neg (by rw [show (3 : Int32) = nI 3 from rfl, nI_ltI (by omega) (by omega)]; omega)]
    unfold wornS
    rw [x_stonesWith (by omega) (by omega), Option.bind_some]
    simp only [jl_let_eq, hone, hm1]
    rw [one_shl (by omega)]
    have hst : nb 9 (fun s => decide (c s = t + 1)) = 0 ↔ usd c (t + 1) (pn g) = false := by
      rw [nb_zero]
      constructor
      · intro h
        cases hu : usd c (t + 1) (pn g) with
        | false => rfl
        | true =>
          obtain ⟨s, s1, s2⟩ := usd_iff.mp hu
          have := h s (by omega)
          rw [s2] at this; simp at this
      · intro h s hs
        cases hd : decide (c s = t + 1) with
        | false => rfl
        | true =>
          have hd := of_decide_eq_true hd
          have : s < pn g := by
            rcases Nat.lt_or_ge s (pn g) with q | q
            · exact q
            · have := hc.2.1 s q; omega
          rw [usd_iff.mpr ⟨s, this, hd⟩] at h; cases h
    have step : ∀ v : Bool, v = usd c (t + 1) (pn g) → nI (nb 3 (fun j => decide (j < t + 1) && usd c (j + 1) (pn g))) = nI (nb 3 (fun j => decide (j < t) && usd c (j + 1) (pn g))) ||| nI (if v = true then 2 ^ t else 0) := by
      intro v hv
      rw [ni_or]
      symm
      have h2t : 2 ^ t < 2 ^ 3 := Nat.pow_lt_pow_right (by omega) (by omega)
      refine congrArg nI (nb_ext (Nat.or_lt_two_pow (nb_lt _ _) (by split <;> omega)) (fun s hs => ?_))
      rw [Nat.testBit_or, nb_tb]
      by_cases e : s = t
      · subst e
        rw [← hv]
        cases v
        · simp
        · simp [Nat.testBit_two_pow]
      · have z : (if v = true then 2 ^ t else 0).testBit s = false := by
          split
          · rw [Nat.testBit_two_pow]; simp; omega
          · simp
        rw [z, Bool.or_false]
        have : decide (s < t) = decide (s < t + 1) := by apply decide_eq_decide.mpr; omega
        simp [hs, this]
    have hl : nb 9 (fun s => decide (c s = t + 1)) < 2 ^ 31 := nb_lt31 (by omega) _
    by_cases hz : nb 9 (fun s => decide (c s = t + 1)) = 0
    · rw [if_pos (by rw [hz]; rfl), step false (hst.mp hz).symm, if_neg (by decide)]; rfl
    · have hv : true = usd c (t + 1) (pn g) := by
        cases hu : usd c (t + 1) (pn g) with
        | true => rfl
        | false => exact absurd (hst.mpr hu) hz
      rw [if_neg (by rw [show (0 : Int32) = nI 0 from rfl, nI_eq hl (by omega)]; exact hz), step true hv, if_pos rfl]
theorem x_fewest {g : JP} (hg : GOK g) {rows columns paints apart po0 po1 old shut : Int32} (hXU : XU g rows columns paints apart po0 po1 old shut) {all fc fit pg0 pg1 : Int32} {ro : Nat → Int32} (hX : XS g all fc fit pg0 pg1 ro) {w : JW} (hW : WOK g w) {F : Nat} (hF : 600 ≤ F) : fX8_fewestPaints F paints shut all fit ro (nI (wornS w.1)) = some (if waysN g w.1 = 0 then -4 else fewI g w.1) := by
  obtain ⟨hn1, hn9, -, -⟩ := gn hg
  have hP := hg.2.2.2.2.1
  have hl := zl_len (c := w.1) (pn g) 0
  have hPp : 2 ^ pP g ≤ 8 := Nat.pow_le_pow_right (n := 2) (by omega) hP
  have hP0 : 1 ≤ 2 ^ pP g := Nat.one_le_two_pow
  have hap : fX3_allPaints paints = some (nI (2 ^ pP g - 1)) := by rw [hXU.2.2.1]; exact x_allPaints hP
  let X : Int32 := nI (fitS g w.1)
  let B : Int32 := nI (bareS g w.1)
  let U : Int32 := nI (usS g w.1)
  have hus8 : usS g w.1 < 2 ^ 3 := nb_lt 3 _
  -- the inner loop
  have inner : ∀ (k : Nat) (K : Int32 → Int32 → Int32 → Int32 → Option Int32), k ≤ 3 → ∀ m t, t + m = 2 ^ pP g → (∀ q, q < t → fwg g w.1 k q = false) → ∀ f, m < f →
      jl_loop5 (bX8_fewestPaints_30 F paints shut all fit ro (nI (wornS w.1)) K) f X B U (nI k) (nI t) = if jall (fun q => !fwg g w.1 k q) (2 ^ pP g) = true then K X B U (nI (k + 1)) else some (nI k) := by
    intro k K hk m
    induction m with
    | zero =>
      intro t ht hno f hf
      obtain ⟨f', rfl⟩ : ∃ f', f = f' + 1 := ⟨f - 1, by omega⟩
      rw [jl_loop5_s]; unfold bX8_fewestPaints_30
      have hone : nI k + Int32.ofInt 1 = nI (k + 1) := nI_add k 1
      rw [hap, Option.bind_some, if_pos (by rw [nI_ltI (by omega) (by omega)]; omega), jl_let_eq, hone, if_pos (by
        rw [jall_iff]; intro q hq
        rw [hno q (by omega)]; rfl)]
    | succ m ih =>
      intro t ht hno f hf
      obtain ⟨f', rfl⟩ : ∃ f', f = f' + 1 := ⟨f - 1, by omega⟩
      have hone : nI t + Int32.ofInt 1 = nI (t + 1) := nI_add t 1
      have hbt : fJ6_bitCount_0f7a4 (nI t) = some (nI (fb_ct t.testBit 32)) := bitCount_ok (by omega)
      have hct := fb_ct_le t.testBit 32
      have hmask : fX3_inPaints F 511 (nI t) = some (nI (nbp (fun _ p => qP t p))) := by
        rw [show (511 : Int32) = nI 511 from rfl, x_inPaints (by omega) (by omega) (by omega)]
        refine congrArg (fun z => some (nI z)) (nbp_cong (fun s p hs _ _ => ?_))
        have : (511 : Nat).testBit s = true := by
          have h9 : ∀ s, s < 9 → (511 : Nat).testBit s = true := by decide
          exact h9 s hs
        rw [this, Bool.true_and]; rfl
      obtain ⟨r, f1, f2, f3⟩ := x_fillings hg hX (qP t) (F := F) (by omega) (zl w.1 (pn g) 0) w.1 1 0 11 hW.1 rfl (by omega) (by omega) (by omega) (by omega)
      have hr0 : r = 0 ↔ (fil g (qP t) (zl w.1 (pn g) 0) w.1).length = 0 := by
        rcases f3 with h | h
        · rw [h]
        · omega
      have hrl : r < 2 ^ 31 := by
        have h1 := fil_len g (qP t) (zl w.1 (pn g) 0) w.1
        have h4 := Nat.pow_le_pow_right (n := 3) (by omega) (Nat.le_trans hl hn9)
        have h5 : 3 ^ 9 = 19683 := by decide
        omega
      have hal : adn (usS g w.1) t < 2 ^ 31 := adn_lt (by omega)
      rw [jl_loop5_s]
      cases hg1 : fwg g w.1 k t with
      | true =>
        have hg2 := hg1
        unfold fwg at hg2
        simp only [Bool.and_eq_true, decide_eq_true_eq] at hg2
        rw [if_neg (by
          rw [jall_iff]; intro h
          have := h t (by omega)
          rw [hg1] at this; cases this)]
        generalize jl_loop5 (bX8_fewestPaints_30 F paints shut all fit ro (nI (wornS w.1)) K) f' = L
        unfold bX8_fewestPaints_30 fX8_fewestPaints_64
        rw [hap, Option.bind_some, if_neg (by rw [nI_ltI (by omega) (by omega)]; omega), hbt, Option.bind_some, if_pos (by rw [hg2.1]), ni_m1]
        show (if nI (usS g w.1) &&& (nI t ^^^ -nI 1) = 0 then _ else _) = _
        rw [ni_adn, if_pos (by rw [hg2.2.1]; rfl), if_neg (by decide), hmask, Option.bind_some]
        show (fX8_fillings F 11 ro (nI (fitS g w.1) &&& nI (nbp (fun _ p => qP t p))) (nI (bareS g w.1)) 1 0).bind _ = _
        rw [ni_and, show (1 : Int32) = nI 1 from rfl, show (0 : Int32) = nI 0 from rfl, f1, Option.bind_some, if_neg (by rw [nI_eq hrl (by omega), hr0]; exact hg2.2.2)]
      | false =>
        have hstep : ∀ L : Int32 → Int32 → Int32 → Int32 → Int32 → Option Int32, bX8_fewestPaints_30 F paints shut all fit ro (nI (wornS w.1)) K L X B U (nI k) (nI t) = L X B U (nI k) (nI (t + 1)) := by
          intro L
          unfold bX8_fewestPaints_30 fX8_fewestPaints_63 fX8_fewestPaints_64
          rw [hap, Option.bind_some, if_neg (by rw [nI_ltI (by omega) (by omega)]; omega), hbt, Option.bind_some]
          by_cases e1 : fb_ct t.testBit 32 = k
          · rw [if_pos (by rw [e1]), ni_m1]
            show (if nI (usS g w.1) &&& (nI t ^^^ -nI 1) = 0 then _ else _) = _
            rw [ni_adn]
            by_cases e2 : adn (usS g w.1) t = 0
            · have e3 : (fil g (qP t) (zl w.1 (pn g) 0) w.1).length = 0 := by
                apply Classical.byContradiction
                intro q
                unfold fwg at hg1
                simp [e1, e2, q] at hg1
              rw [if_pos (by rw [e2]; rfl), if_neg (by decide), hmask, Option.bind_some]
              show (fX8_fillings F 11 ro (nI (fitS g w.1) &&& nI (nbp (fun _ p => qP t p))) (nI (bareS g w.1)) 1 0).bind _ = _
              rw [ni_and, show (1 : Int32) = nI 1 from rfl, show (0 : Int32) = nI 0 from rfl, f1, Option.bind_some, if_pos (by rw [hr0.mpr e3]), jl_let_eq, hone]
            · rw [if_neg (by rw [show (0 : Int32) = nI 0 from rfl, nI_eq hal (by omega)]; exact e2), if_pos rfl, jl_let_eq, hone]
          · rw [if_neg (by rw [nI_eq (by omega) (by omega)]; exact e1), if_pos rfl, jl_let_eq, hone]
        rw [hstep]
        exact ih (t + 1) (by omega) (fun q hq => by
          by_cases e : q = t
          · rw [e]; exact hg1
          · exact hno q (by omega)) f' (by omega)
  -- how many
  have outer : ∀ m k, k + m = 4 → (∀ j q, j < k → q < 2 ^ pP g → fwg g w.1 j q = false) → ∀ f, m < f → jl_loop4 (bX8_fewestPaints_21 F paints shut all fit ro (nI (wornS w.1))) f X B U (nI k) = some (if waysN g w.1 = 0 then -4 else fewI g w.1) := by
    intro m
    induction m with
    | zero =>
      intro k hk hno f hf
      obtain ⟨f', rfl⟩ : ∃ f', f = f' + 1 := ⟨f - 1, by omega⟩
      rw [jl_loop4_s]; unfold bX8_fewestPaints_21
      rw [if_pos (by rw [show (3 : Int32) = nI 3 from rfl, nI_ltI (by omega) (by omega)]; omega)]
      by_cases h0 : waysN g w.1 = 0
      · rw [if_pos h0]
      · exfalso
        obtain ⟨r, h1, ⟨c', h2, h3⟩, h4⟩ := fewI_min h0
        obtain ⟨u1, u2⟩ := fwg_of hP (fun s => hW.2.2.2.2.2 s) h2
        have h5 : unl g c' ≤ 3 := by rw [unl_us]; exact fb_ct_le _ _
        rw [hno _ _ (by omega) u1] at u2; cases u2
    | succ m ih =>
      intro k hk hno f hf
      obtain ⟨f', rfl⟩ : ∃ f', f = f' + 1 := ⟨f - 1, by omega⟩
      rw [jl_loop4_s]
      have hrec := fun h => ih (k + 1) (by omega) h f' (by omega)
      generalize jl_loop4 (bX8_fewestPaints_21 F paints shut all fit ro (nI (wornS w.1))) f' = L at hrec ⊢
      unfold bX8_fewestPaints_21 lX8_fewestPaints_30
      rw [if_neg (by rw [show (3 : Int32) = nI 3 from rfl, nI_ltI (by omega) (by omega)]; omega), show (0 : Int32) = nI 0 from rfl, inner k L (by omega) (2 ^ pP g) 0 (by omega) (fun q hq => absurd hq (Nat.not_lt_zero q)) F (by omega)]
      cases hall : jall (fun q => !fwg g w.1 k q) (2 ^ pP g) with
      | true =>
        rw [if_pos rfl]
        rw [jall_iff] at hall
        refine hrec (fun j q hj hq => ?_)
        by_cases e : j = k
        · have := hall q hq
          rw [e]; simpa using this
        · exact hno j q (by omega) hq
      | false =>
        rw [if_neg (by decide)]
        have hex : ∃ q, q < 2 ^ pP g ∧ fwg g w.1 k q = true := by
          apply Classical.byContradiction
          intro h
          have : jall (fun q => !fwg g w.1 k q) (2 ^ pP g) = true := by
            rw [jall_iff]; intro q hq
            cases hq2 : fwg g w.1 k q with
            | false => rfl
            | true => exact absurd ⟨q, hq, hq2⟩ h
          rw [this] at hall; cases hall
        obtain ⟨q, q1, q2⟩ := hex
        obtain ⟨c', c1, c2⟩ := fwg_some (by omega) q2
        have h0 : waysN g w.1 ≠ 0 := by
          intro e
          unfold waysN at e
          rw [List.length_eq_zero_iff.mp e] at c1; cases c1
        rw [if_neg h0]
        obtain ⟨r, h1, ⟨c2', h2, h3⟩, h4⟩ := fewI_min h0
        obtain ⟨u1, u2⟩ := fwg_of hP (fun s => hW.2.2.2.2.2 s) h2
        have h5 := h4 c' c1
        have h6 : ¬ r < k := fun e => by
          rw [hno _ _ (by rw [← h3]; exact e) u1] at u2; cases u2
        have : r = k := by omega
        rw [h1, this]
  unfold fX8_fewestPaints lX8_fewestPaints_21
  rw [x_fitting hg hX hW.1 (by omega), Option.bind_some, hX.1]
  have hb := x_bare hg hW.1
  rw [← hXU.2.2.2.2.2.2.2] at hb
  rw [hb, Option.bind_some, x_paintsIn hg hW.1 (by omega), Option.bind_some]
  have := outer 4 0 rfl (fun j q hj => absurd hj (Nat.not_lt_zero j)) F (by omega)
  rw [hX.1] at this
  exact this
theorem st_fewest : St_fewest Inv_ := by
  intro x_text_length x_text_bytes_ x_reader_at x_reader_first x_reader_second x_reader_stoneTold x_reader_paintTold x_wall_worn x_wall_turn x_wall_order x_wall_pastLength x_wall_heldLength x_wall_past_ x_wall_held_ x_row_length x_row_paintings_ x_game_known_ x_lot_above x_lot_below x_laid_rows x_laid_columns x_laid_paints x_laid_apart x_laid_paintsOf0 x_laid_paintsOf1 x_laid_old x_laid_shut x_laid_all x_laid_firstColumn x_laid_fitsAtFirst x_laid_paintingsOf0 x_laid_paintingsOf1 x_laid_ruledOut_ x_spare_rows x_spare_columns x_spare_paints x_spare_apart x_spare_paintsOf0 x_spare_paintsOf1 x_spare_old x_spare_shut x_spare_all x_spare_firstColumn x_spare_fitsAtFirst x_spare_paintingsOf0 x_spare_paintingsOf1 x_spare_ruledOut_ y_length y_at y_stones y_kept y_done y_rows y_frees y_fewest y_text_ y_told_ y_touches_ y_has_ y_old_ y_beside_ y_slot_ y_row_ y_free_ y_worth_ y_fore_ y_back_ y_got_
  intro hI
  replace hI : InvC x_text_length x_text_bytes_ x_reader_at x_reader_first x_reader_second x_reader_stoneTold x_reader_paintTold x_wall_worn x_wall_turn x_wall_order x_wall_pastLength x_wall_heldLength x_wall_past_ x_wall_held_ x_row_length x_row_paintings_ x_game_known_ x_lot_above x_lot_below x_laid_rows x_laid_columns x_laid_paints x_laid_apart x_laid_paintsOf0 x_laid_paintsOf1 x_laid_old x_laid_shut x_laid_all x_laid_firstColumn x_laid_fitsAtFirst x_laid_paintingsOf0 x_laid_paintingsOf1 x_laid_ruledOut_ x_spare_rows x_spare_columns x_spare_paints x_spare_apart x_spare_paintsOf0 x_spare_paintsOf1 x_spare_old x_spare_shut x_spare_all x_spare_firstColumn x_spare_fitsAtFirst x_spare_paintingsOf0 x_spare_paintingsOf1 x_spare_ruledOut_ y_length y_at y_stones y_kept y_done y_rows y_frees y_fewest y_text_ y_told_ y_touches_ y_has_ y_old_ y_beside_ y_slot_ y_row_ y_free_ y_worth_ y_fore_ y_back_ y_got_ := hI
  obtain ⟨g, w, d, ps, e, ks, r, rs, len, hg, hIT, hXU, hXS, hMR, hIW, hIP, hIH, hIR, hMem⟩ := hI
  obtain ⟨hW, rfl, rfl, rfl, hSW⟩ := hIW
  obtain ⟨s1, c1, cp⟩ := copies_ok (slot := y_slot_) (a := 0) (b := 11) (F := FU) (by omega) (by omega) (by omega) (FU_ge (by omega))
  have hS1 := hSW.cp (hW.len9 hg) cp
  obtain ⟨free', hw⟩ := waysOf_ok hg hMR hW.1.1 hS1.1 y_frees y_fewest y_free_
  have hx := x_fewest hg hXU hXS hW (FU_ge (n := 600) (by omega))
  have hwl := waysN_le hg w.1
  refine ⟨if waysN g w.1 = 0 then -4 else fewI g w.1, (if waysN g w.1 = 0 then -4 else fewI g w.1, nI (zl w.1 (pn g) 0).length, fewI g w.1, s1, free'), ?_, ?_, Eq.refl (if waysN g w.1 = 0 then -4 else fewI g w.1), ?_⟩
  · unfold fX9_fewest
    rw [hx]; rfl
  · unfold fX10_fewest
    rw [show (0 : Int32) = nI 0 from rfl, show (11 : Int32) = nI 11 from rfl, c1, Option.bind_some, hw, Option.bind_some]
    dsimp only
    by_cases h0 : waysN g w.1 = 0
    · rw [if_pos (by rw [h0]), if_pos h0]
    · rw [if_neg (by rw [nI_eq (by omega) (by omega)]; exact h0), if_neg h0]
  · obtain ⟨z1, z2, z3⟩ := slot_low hg hW hSW hIP hIH (fun j hj => cp.2 j (by omega))
    exact ⟨g, w, d, ps, e, ks, r, rs, len, hg, hIT, hXU, hXS, hMR, ⟨hW, rfl, rfl, rfl, z1⟩, z2, z3, hIR, hMem⟩
