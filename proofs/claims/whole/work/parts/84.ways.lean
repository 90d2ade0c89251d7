/-! in how many ways the bare stones can be painted: the ways as a list, and the class's search -/
/-- the bare stones from s on -/
def zl (c : Nat → Nat) : Nat → Nat → List Nat
  | 0, _ => []
  | m + 1, s => if c s = 0 then s :: zl c m (s + 1) else zl c m (s + 1)
theorem zl_mem {c : Nat → Nat} {t : Nat} : ∀ m s, t ∈ zl c m s ↔ s ≤ t ∧ t < s + m ∧ c t = 0 := by
  intro m
  induction m with
  | zero => intro s; simp only [zl, List.not_mem_nil, false_iff]; omega
  | succ m ih =>
    intro s
    simp only [zl]
    by_cases h : c s = 0
    · rw [if_pos h, List.mem_cons, ih]
      constructor
      · rintro (rfl | h2)
        · exact ⟨Nat.le_refl _, by omega, h⟩
        · exact ⟨by omega, by omega, h2.2.2⟩
      · rintro ⟨h1, h2, h3⟩
        by_cases e : t = s
        · exact Or.inl e
        · exact Or.inr ⟨by omega, by omega, h3⟩
    · rw [if_neg h, ih]
      constructor
      · rintro ⟨h1, h2, h3⟩; exact ⟨by omega, by omega, h3⟩
      · rintro ⟨h1, h2, h3⟩
        have : t ≠ s := fun e => h (e ▸ h3)
        exact ⟨by omega, by omega, h3⟩
theorem zl_len {c : Nat → Nat} : ∀ m s, (zl c m s).length ≤ m := by
  intro m
  induction m with
  | zero => intro s; exact Nat.le_refl 0
  | succ m ih =>
    intro s
    have := ih (s + 1)
    simp only [zl]
    split
    · rw [List.length_cons]; omega
    · omega
theorem zl_cong {c c' : Nat → Nat} : ∀ m s, (∀ t, s ≤ t → t < s + m → (c' t = 0 ↔ c t = 0)) → zl c' m s = zl c m s := by
  intro m
  induction m with
  | zero => intro s _; rfl
  | succ m ih =>
    intro s h
    simp only [zl]
    rw [ih (s + 1) (fun t h1 h2 => h t (by omega) (by omega))]
    by_cases e : c s = 0
    · rw [if_pos e, if_pos ((h s (Nat.le_refl s) (by omega)).mpr e)]
    · rw [if_neg e, if_neg (fun e' => e ((h s (Nat.le_refl s) (by omega)).mp e'))]
theorem zl_cons {c : Nat → Nat} {a : Nat} {l : List Nat} : ∀ m s, zl c m s = a :: l → s ≤ a ∧ a < s + m ∧ c a = 0 ∧ (∀ t, s ≤ t → t < a → c t ≠ 0) ∧ ∀ c' : Nat → Nat, (∀ t, t ≠ a → (c' t = 0 ↔ c t = 0)) → c' a ≠ 0 → zl c' m s = l := by
  intro m
  induction m with
  | zero => intro s h; cases h
  | succ m ih =>
    intro s h
    simp only [zl] at h
    by_cases e : c s = 0
    · rw [if_pos e] at h
      injection h with h1 h2
      subst h1
      refine ⟨Nat.le_refl _, by omega, e, fun t h3 h4 => by omega, fun c' h3 h4 => ?_⟩
      simp only [zl]
      rw [if_neg h4, ← h2]
      exact zl_cong m _ (fun t h5 h6 => h3 t (by omega))
    · rw [if_neg e] at h
      obtain ⟨i1, i2, i3, i4, i5⟩ := ih (s + 1) h
      refine ⟨by omega, by omega, i3, fun t h3 h4 => ?_, fun c' h3 h4 => ?_⟩
      · by_cases q : t = s
        · rw [q]; exact e
        · exact i4 t (by omega) h4
      · simp only [zl]
        rw [if_neg (fun q => e ((h3 s (by omega)).mp q))]
        exact i5 c' h3 h4
theorem zl_nil {c : Nat → Nat} {m s : Nat} (h : zl c m s = []) {t : Nat} (h1 : s ≤ t) (h2 : t < s + m) : c t ≠ 0 := by
  intro e
  have : t ∈ zl c m s := (zl_mem m s).mpr ⟨h1, h2, e⟩
  rw [h] at this; cases this
theorem zl_nodup {c : Nat → Nat} : ∀ m s, (zl c m s).Nodup := by
  intro m
  induction m with
  | zero => intro s; exact List.nodup_nil
  | succ m ih =>
    intro s
    simp only [zl]
    split
    · rw [List.nodup_cons]
      exact ⟨fun h => by have := ((zl_mem m (s + 1)).mp h).1; omega, ih (s + 1)⟩
    · exact ih (s + 1)
/-- the ways to paint the stones of a list, with the paints of Q -/
def ok1 (g : JP) (Q : Nat → Bool) (c : Nat → Nat) (s p : Nat) : Bool := Q p && (decide (p ≤ pP g) && wellA g c s p)
def fil (g : JP) (Q : Nat → Bool) : List Nat → (Nat → Nat) → List (Nat → Nat)
  | [], c => [c]
  | s :: l, c => (List.range' 1 3).flatMap fun p => if ok1 g Q c s p = true then fil g Q l (upc c s p) else []
def fils (g : JP) (Q : Nat → Bool) (l : List Nat) (c : Nat → Nat) (s p m : Nat) : List (Nat → Nat) := (List.range' p m).flatMap fun p => if ok1 g Q c s p = true then fil g Q l (upc c s p) else []
theorem fils_succ (g : JP) (Q : Nat → Bool) (l : List Nat) (c : Nat → Nat) (s p m : Nat) : fils g Q l c s p (m + 1) = (if ok1 g Q c s p = true then fil g Q l (upc c s p) else []) ++ fils g Q l c s (p + 1) m := by
  unfold fils; rw [List.range'_succ, List.flatMap_cons]
theorem fils_len (g : JP) (Q : Nat → Bool) (l : List Nat) (c : Nat → Nat) (s : Nat) : ∀ m p B, (∀ q, (fil g Q l (upc c s q)).length ≤ B) → (fils g Q l c s p m).length ≤ m * B := by
  intro m
  induction m with
  | zero => intro p B _; show 0 ≤ _; omega
  | succ m ih =>
    intro p B h
    rw [fils_succ, List.length_append, Nat.succ_mul]
    have h1 := ih (p + 1) B h
    have h2 := h p
    split
    · omega
    · rw [List.length_nil]; omega
theorem fil_len (g : JP) (Q : Nat → Bool) : ∀ (l : List Nat) (c : Nat → Nat), (fil g Q l c).length ≤ 3 ^ l.length := by
  intro l
  induction l with
  | nil => intro c; exact Nat.le_refl 1
  | cons s l ih =>
    intro c
    have := fils_len g Q l c s 3 1 (3 ^ l.length) (fun q => ih _)
    rw [List.length_cons, Nat.pow_succ, Nat.mul_comm _ 3]
    exact this
/-- what may be beside more paint may be beside less -/
theorem well_mono {g : JP} {c : Nat → Nat} {a p s q : Nat} (hz : c a = 0) (h : wellA g (upc c a p) s q = true) : wellA g c s q = true := by
  unfold wellA at h ⊢
  rw [jall_iff] at h ⊢
  intro t ht
  have := h t ht
  unfold wf upc at this
  unfold wf
  by_cases e : t = a
  · subst e; simp [hz]
  · rw [if_neg e] at this; exact this
/-- where a bare stone takes no paint there is no way -/
theorem fil_dead {g : JP} {Q : Nat → Bool} {s : Nat} : ∀ (l : List Nat) (c : Nat → Nat), s ∈ l → l.Nodup → (∀ t ∈ l, c t = 0) → (∀ p, 1 ≤ p → p ≤ 3 → ok1 g Q c s p = false) → fil g Q l c = [] := by
  intro l
  induction l with
  | nil => intro c h; cases h
  | cons a l ih =>
    intro c hs hd hz hn
    rw [List.nodup_cons] at hd
    have key : ∀ m p, 1 ≤ p → p + m = 4 → fils g Q l c a p m = [] := by
      intro m
      induction m with
      | zero => intro p _ _; rfl
      | succ m ihm =>
        intro p h1 h4
        rw [fils_succ, ihm (p + 1) (by omega) (by omega), List.append_nil]
        by_cases e : s = a
        · subst e
          rw [hn p h1 (by omega), if_neg (by decide)]
        · split
          · refine ih _ ?_ hd.2 (fun t ht => ?_) (fun q q1 q3 => ?_)
            · rcases List.mem_cons.mp hs with h | h
              · exact absurd h e
              · exact h
            · unfold upc
              rw [if_neg (fun (q : t = a) => hd.1 (q ▸ ht))]
              exact hz t (List.mem_cons_of_mem _ ht)
            · have hq := hn q q1 q3
              cases hk : ok1 g Q (upc c a p) s q with
              | false => rfl
              | true =>
                unfold ok1 at hk hq
                simp only [Bool.and_eq_true] at hk
                have := well_mono (hz a List.mem_cons_self) hk.2.2
                rw [this, hk.1, hk.2.1] at hq; cases hq
          · rfl
    exact key 3 1 (by omega) (by omega)
/-- the lowest bit of a number -/
theorem low_and {m s : Nat} (hm : m < 2 ^ 32) (hs : m.testBit s = true) (hl : ∀ i, i < s → m.testBit i = false) : nI m &&& -nI m = nI (2 ^ s) := by
  have hpos : 0 < m := by
    rcases Nat.eq_zero_or_pos m with h | h
    · rw [h, Nat.zero_testBit] at hs; cases hs
    · exact h
  have hneg : -nI m = nI (2 ^ 32 - m) := by
    apply Int32.toBitVec_inj.mp
    rw [Int32.toBitVec_neg]
    show -(BitVec.ofNat 32 m) = BitVec.ofNat 32 (2 ^ 32 - m)
    apply BitVec.eq_of_toNat_eq
    rw [BitVec.toNat_neg, BitVec.toNat_ofNat, BitVec.toNat_ofNat, Nat.mod_eq_of_lt hm]
  rw [hneg, fa_and]
  congr 1
  have hmod : m % 2 ^ s = 0 := by
    apply Nat.eq_of_testBit_eq; intro i
    rw [Nat.testBit_mod_two_pow, Nat.zero_testBit]
    by_cases h : i < s
    · simp [hl i h]
    · simp [h]
  have hdm : m = 2 ^ s * (m / 2 ^ s) := by
    have := Nat.div_add_mod m (2 ^ s); omega
  have hodd : (m / 2 ^ s) % 2 = 1 := by
    rw [Nat.testBit_eq_decide_div_mod_eq] at hs; simpa using hs
  generalize hk : m / 2 ^ s = k at hdm hodd
  have hp : 0 < 2 ^ s := Nat.two_pow_pos s
  have hm1 : m - 1 = 2 ^ s * (k - 1) + (2 ^ s - 1) := by
    obtain ⟨k', rfl⟩ : ∃ k', k = k' + 1 := ⟨k - 1, by omega⟩
    rw [hdm, Nat.mul_succ, Nat.add_sub_cancel]; omega
  apply Nat.eq_of_testBit_eq; intro i
  have hx : m - 1 < 2 ^ 32 := by omega
  have hsub : 2 ^ 32 - m = 2 ^ 32 - ((m - 1) + 1) := by omega
  rw [Nat.testBit_and, hsub, Nat.testBit_two_pow_sub_succ hx, Nat.testBit_two_pow, hm1, Nat.testBit_two_pow_mul_add _ (by omega)]
  by_cases h : i < s
  · rw [hl i h]
    have : ¬ s = i := by omega
    simp [this]
  · rw [if_neg h]
    by_cases e : s = i
    · subst e
      have : (k - 1).testBit 0 = false := by rw [Nat.testBit_zero]; simp; omega
      have h32 : s < 32 := by
        rcases Nat.lt_or_ge s 32 with q | q
        · exact q
        · have := Nat.testBit_lt_two_pow (Nat.lt_of_lt_of_le hm (Nat.pow_le_pow_right (n := 2) (by omega) q))
          rw [hs] at this; cases this
      rw [hs, Nat.sub_self, this]; simp [h32]
    · have e2 : m.testBit i = (k - 1).testBit (i - s) := by
        have h1 : m.testBit i = k.testBit (i - s) := by
          rw [← hk, tb_shr]; congr 1; omega
        rw [h1]
        obtain ⟨j, hj⟩ : ∃ j, i - s = j + 1 := ⟨i - s - 1, by omega⟩
        rw [hj, Nat.testBit_succ, Nat.testBit_succ]
        congr 1; omega
      rw [e2]
      cases (k - 1).testBit (i - s) <;> simp [e]
theorem adn_lt {a b k : Nat} (h : a < k) : adn a b < k := Nat.lt_of_le_of_lt Nat.and_le_left h
/-- what fits, with some paintings left out -/
theorem adn_and (a q r : Nat) : adn (a &&& q) r = adn a r &&& q := by
  unfold adn
  rw [Nat.and_assoc, Nat.and_assoc, Nat.and_comm q]
theorem fit_after {g : JP} (hg : GOK g) {all fc fit pg0 pg1 : Int32} {ro : Nat → Int32} (hX : XS g all fc fit pg0 pg1 ro) {c : Nat → Nat} {s p : Nat} (hs : s < pn g) (h1 : 1 ≤ p) (h3 : p ≤ 3) (hz : c s = 0) : adn (fitS g c) (rulS g s p) = fitS g (upc c s p) := by
  have hn := hg.2.2.1
  have e1 := x_fittingAfter (ro := ro) (m := fitS g c) (i := 9 * (p - 1) + s) (r := rulS g s p) (by omega) (hX.2.2.2.2.2 s hs p h1 h3)
  rw [x_fitAfter hg hX hs h1 h3 hz] at e1
  injection e1 with e1
  rw [nI_eq (fitS_lt31 _ _) (adn_lt (fitS_lt31 g c))] at e1
  exact e1.symm
theorem x_fitAfterM {g : JP} (hg : GOK g) {all fc fit pg0 pg1 : Int32} {ro : Nat → Int32} (hX : XS g all fc fit pg0 pg1 ro) {c : Nat → Nat} {s p q : Nat} (hs : s < pn g) (h1 : 1 ≤ p) (h3 : p ≤ 3) (hz : c s = 0) : fX3_fittingAfter ro (nI (fitS g c &&& q)) (nI (2 ^ (9 * (p - 1) + s))) = some (nI (fitS g (upc c s p) &&& q)) := by
  have hn := hg.2.2.1
  rw [x_fittingAfter (ro := ro) (i := 9 * (p - 1) + s) (r := rulS g s p) (by omega) (hX.2.2.2.2.2 s hs p h1 h3), adn_and, fit_after hg hX hs h1 h3 hz]
theorem bare_tb {g : JP} {c : Nat → Nat} {i : Nat} : (bareS g c).testBit i = (decide (i < 9) && (decide (i < pn g) && decide (c i = 0))) := nb_tb 9 _ i
theorem CG.pc {g : JP} {c : Nat → Nat} (hc : CG g c) {s p : Nat} (hs : s < pn g) (hz : c s = 0) (h3 : p ≤ 3) : CG g (upc c s p) := by
  obtain ⟨h1, h2, h9⟩ := hc
  refine ⟨fun t => ?_, fun t ht => ?_, fun t => ?_⟩
  · show upc c s p t ≤ 3 ∨ upc c s p t = 9
    unfold upc; split
    · left; omega
    · exact h1 t
  · show upc c s p t = 0
    unfold upc; rw [if_neg (by omega)]; exact h2 t ht
  · show upc c s p t = 9 ↔ _
    have := h9 t
    unfold upc; split
    · next e => subst e; omega
    · exact this
theorem fitm_tb {g : JP} {Q : Nat → Bool} {c : Nat → Nat} {s p : Nat} (hs : s < 9) (h1 : 1 ≤ p) (h3 : p ≤ 3) : (fitS g c &&& nbp (fun _ p => Q p)).testBit (9 * (p - 1) + s) = (decide (s < pn g) && (decide (c s = 0) && ok1 g Q c s p)) := by
  rw [Nat.testBit_and, nbp_tb hs h1 h3]
  unfold fitS
  rw [nbp_tb hs h1 h3]
  unfold ok1
  cases Q p <;> simp
theorem bare_upc {g : JP} {c : Nat → Nat} {s p : Nat} (hs : s < pn g) (h1 : 1 ≤ p) (h9 : pn g ≤ 9) : adn (bareS g c) (2 ^ s) = bareS g (upc c s p) := by
  unfold bareS
  rw [← nb_one (n := 9) (k := s) (by omega), nb_adn (by omega)]
  refine nb_cong (fun t ht => ?_)
  unfold upc
  by_cases e : t = s
  · have : ¬ p = 0 := by omega
    simp [e, ht, this]
    omega
  · simp [e]
/-- the class's search: as many as there are, or enough of them -/
theorem x_fillings {g : JP} (hg : GOK g) {all fc fit pg0 pg1 : Int32} {ro : Nat → Int32} (hX : XS g all fc fit pg0 pg1 ro) (Q : Nat → Bool) {F : Nat} (hF : 5 ≤ F) :
    ∀ (l : List Nat) (c : Nat → Nat) (en dp d : Nat), CG g c → zl c (pn g) 0 = l → dp + l.length ≤ 9 → l.length < d → 1 ≤ en → en < 2 ^ 31 → ∃ r, fX8_fillings F d ro (nI (fitS g c &&& nbp (fun _ p => Q p))) (nI (bareS g c)) (nI en) (nI dp) = some (nI r) ∧ r ≤ (fil g Q l c).length ∧ (r = (fil g Q l c).length ∨ en ≤ r) := by
  have hn := hg.2.2.1
  intro l
  induction l with
  | nil =>
    intro c en dp d hc hl hdp hd h1 h2
    obtain ⟨d', rfl⟩ : ∃ d', d = d' + 1 := ⟨d - 1, by omega⟩
    have hb : bareS g c = 0 := nb_zero.mpr (fun i hi => by
      by_cases h : i < pn g
      · have := zl_nil hl (t := i) (by omega) (by omega)
        simp [this]
      · simp [h])
    refine ⟨1, ?_, Nat.le_refl 1, Or.inl rfl⟩
    unfold fX8_fillings
    rw [jl_loop5_s, hb]
    unfold gX8_fillings
    rw [if_pos (by decide)]; rfl
  | cons s l ih =>
    intro c en dp d hc hl hdp hd h1 h2
    obtain ⟨d', rfl⟩ : ∃ d', d = d' + 1 := ⟨d - 1, by omega⟩
    obtain ⟨-, z2, z3, z4, z5⟩ := zl_cons (pn g) 0 hl
    rw [Nat.zero_add] at z2
    rw [List.length_cons] at hdp hd
    have hmem : ∀ t, t ∈ s :: l ↔ t < pn g ∧ c t = 0 := by
      intro t; rw [← hl, zl_mem]; omega
    have hbs : (bareS g c).testBit s = true := by
      rw [bare_tb]
      have : s < 9 := by omega
      simp [z2, z3, this]
    have hbl : ∀ i, i < s → (bareS g c).testBit i = false := by
      intro i hi
      rw [bare_tb]
      have := z4 i (by omega) hi
      simp [this]
    have hb9 : bareS g c < 2 ^ 9 := nb_lt 9 _
    have hb0 : bareS g c ≠ 0 := by
      intro e; rw [e, Nat.zero_testBit] at hbs; cases hbs
    unfold fX8_fillings
    rw [jl_loop5_s]
    generalize hrec : jl_loop5 (fun rec => gX8_fillings F rec) d' = rec
    have hcall : ∀ c' en', CG g c' → zl c' (pn g) 0 = l → 1 ≤ en' → en' < 2 ^ 31 → ∃ r, rec ro (nI (fitS g c' &&& nbp (fun _ p => Q p))) (nI (bareS g c')) (nI en') (nI (dp + 1)) = some (nI r) ∧ r ≤ (fil g Q l c').length ∧ (r = (fil g Q l c').length ∨ en' ≤ r) := by
      intro c' en' a1 a2 a3 a4
      rw [← hrec]
      exact ih c' en' (dp + 1) d' a1 a2 (by omega) (by omega) a3 a4
    unfold gX8_fillings
    have hnb : fitS g c &&& nbp (fun _ p => Q p) = nbp (fun s p => (decide (s < pn g) && (decide (c s = 0) && (decide (p ≤ pP g) && wellA g c s p))) && Q p) := nbp_and _ _
    rw [if_neg (by rw [show (0 : Int32) = nI 0 from rfl, nI_eq (by omega) (by omega)]; exact hb0), if_neg (by rw [show (9 : Int32) = nI 9 from rfl, nI_leI (by omega) (by omega)]; omega), hnb, x_painted, Option.bind_some, ni_m1, ni_adn, ← hnb]
    by_cases hdead : adn (bareS g c) (nb 9 (fun s => (decide (s < pn g) && (decide (c s = 0) && (decide (1 ≤ pP g) && wellA g c s 1)) && Q 1) || (decide (s < pn g) && (decide (c s = 0) && (decide (2 ≤ pP g) && wellA g c s 2)) && Q 2) || (decide (s < pn g) && (decide (c s = 0) && (decide (3 ≤ pP g) && wellA g c s 3)) && Q 3))) = 0
    · rw [if_pos (by rw [hdead]; rfl), jl_let_eq, low_and (by omega) hbs hbl]
      unfold lX8_fillings_38
      generalize hT : (fil g Q (s :: l) c).length = T
      have hT3 : T ≤ 3 ^ 9 := by
        rw [← hT]
        exact Nat.le_trans (fil_len g Q (s :: l) c) (Nat.pow_le_pow_right (by omega) (by rw [List.length_cons]; omega))
      have hT31 : T < 2 ^ 31 := Nat.lt_of_le_of_lt hT3 (by decide)
      have loop : ∀ m p fd, p + m = 4 → 1 ≤ p → fd + (fils g Q l c s p m).length ≤ T → (en ≤ fd ∨ fd + (fils g Q l c s p m).length = T) → ∃ r, (∀ n, m < n → jl_loop3 (bX8_fillings_38 F rec ro (nI (fitS g c &&& nbp (fun _ p => Q p))) (nI (bareS g c)) (nI en) (nI dp)) n (nI (2 ^ s)) (nI fd) (nI p) = some (nI r)) ∧ r ≤ T ∧ (r = T ∨ en ≤ r) := by
        intro m
        induction m with
        | zero =>
          intro p fd hp h1 h2 h3
          have e0 : (fils g Q l c s p 0).length = 0 := rfl
          rw [e0] at h2 h3
          refine ⟨fd, fun n hn => ?_, by omega, by omega⟩
          obtain ⟨n', rfl⟩ : ∃ n', n = n' + 1 := ⟨n - 1, by omega⟩
          rw [jl_loop3_s]; unfold bX8_fillings_38
          rw [if_pos (by rw [show (3 : Int32) = nI 3 from rfl, nI_ltI (by omega) (by omega)]; omega)]
        | succ m ihm =>
          intro p fd hp h1 h2 h3
          by_cases hen : en ≤ fd
          · refine ⟨fd, fun n hn => ?_, by omega, Or.inr hen⟩
            obtain ⟨n', rfl⟩ : ∃ n', n = n' + 1 := ⟨n - 1, by omega⟩
            rw [jl_loop3_s]; unfold bX8_fillings_38
            rw [if_neg (by rw [show (3 : Int32) = nI 3 from rfl, nI_ltI (by omega) (by omega)]; omega), if_pos (by rw [nI_leI (by omega) (by omega)]; exact hen)]
          · have h3' : fd + (fils g Q l c s p (m + 1)).length = T := by omega
            have e9 : (nI (2 ^ s) : Int32) <<< ((9 * (nI p - 1)) &&& 31) = nI (2 ^ (9 * (p - 1) + s)) := by
              have e1 : (9 : Int32) * (nI p - 1) = nI (9 * (p - 1)) := by
                rw [show (9 : Int32) = nI 9 from rfl, show (1 : Int32) = nI 1 from rfl, pk_sub h1, pk_mul]
              rw [e1, show (31 : Int32) = nI 31 from rfl, ni_shl _ (by omega), Nat.pow_add, Nat.mul_comm]
            have hbit := fa_bit (n := fitS g c &&& nbp (fun _ p => Q p)) (j := 9 * (p - 1) + s) (by omega)
            rw [fitm_tb (by omega) h1 (by omega)] at hbit
            simp only [z2, z3, decide_true, Bool.true_and] at hbit
            have hpre : ∀ n', jl_loop3 (bX8_fillings_38 F rec ro (nI (fitS g c &&& nbp (fun _ p => Q p))) (nI (bareS g c)) (nI en) (nI dp)) (n' + 1) (nI (2 ^ s)) (nI fd) (nI p) = bX8_fillings_38 F rec ro (nI (fitS g c &&& nbp (fun _ p => Q p))) (nI (bareS g c)) (nI en) (nI dp) (jl_loop3 (bX8_fillings_38 F rec ro (nI (fitS g c &&& nbp (fun _ p => Q p))) (nI (bareS g c)) (nI en) (nI dp)) n') (nI (2 ^ s)) (nI fd) (nI p) := fun n' => jl_loop3_s _ _ _ _ _
            have hone : nI p + Int32.ofInt 1 = nI (p + 1) := nI_add p 1
            rw [fils_succ, List.length_append] at h3'
            cases hk : ok1 g Q c s p with
            | false =>
              rw [hk, if_neg (by decide), List.length_nil] at h3'
              obtain ⟨r, r1, r2⟩ := ihm (p + 1) fd (by omega) (by omega) (by omega) (Or.inr (by omega))
              refine ⟨r, fun n hn => ?_, r2⟩
              obtain ⟨n', rfl⟩ : ∃ n', n = n' + 1 := ⟨n - 1, by omega⟩
              rw [hpre]
              have hr := r1 n' (by omega)
              generalize jl_loop3 (bX8_fillings_38 F rec ro (nI (fitS g c &&& nbp (fun _ p => Q p))) (nI (bareS g c)) (nI en) (nI dp)) n' = K at hr ⊢
              unfold bX8_fillings_38
              rw [if_neg (by rw [show (3 : Int32) = nI 3 from rfl, nI_ltI (by omega) (by omega)]; omega), if_neg (by rw [nI_leI (by omega) (by omega)]; exact hen)]
              simp only [jl_let_eq, e9]
              rw [if_pos (hbit.mpr hk), hone]
              exact hr
            | true =>
              rw [hk, if_pos rfl] at h3'
              have hz' : zl (upc c s p) (pn g) 0 = l := z5 (upc c s p) (fun t ht => by unfold upc; rw [if_neg ht]) (by unfold upc; rw [if_pos rfl]; omega)
              obtain ⟨r17, q1, q2, q3⟩ := hcall (upc c s p) (en - fd) (hc.pc z2 z3 (by omega)) hz' (by omega) (by omega)
              obtain ⟨r, r1, r2⟩ := ihm (p + 1) (fd + r17) (by omega) (by omega) (by omega) (by omega)
              refine ⟨r, fun n hn => ?_, r2⟩
              obtain ⟨n', rfl⟩ : ∃ n', n = n' + 1 := ⟨n - 1, by omega⟩
              rw [hpre]
              have hr := r1 n' (by omega)
              generalize jl_loop3 (bX8_fillings_38 F rec ro (nI (fitS g c &&& nbp (fun _ p => Q p))) (nI (bareS g c)) (nI en) (nI dp)) n' = K at hr ⊢
              unfold bX8_fillings_38
              have hbb : nI (bareS g c) &&& (nI (2 ^ s) ^^^ (-1 : Int32)) = nI (bareS g (upc c s p)) := by
                rw [ni_m1, ni_adn, bare_upc z2 (by omega) hg.2.2.1]
              have hdd : nI dp + (1 : Int32) = nI (dp + 1) := nI_add dp 1
              rw [if_neg (by rw [show (3 : Int32) = nI 3 from rfl, nI_ltI (by omega) (by omega)]; omega), if_neg (by rw [nI_leI (by omega) (by omega)]; exact hen)]
              simp only [jl_let_eq, e9]
              rw [if_neg (fun e => by rw [hbit.mp e] at hk; cases hk), x_fitAfterM hg hX z2 h1 (by omega) z3, Option.bind_some, hbb, hdd, pk_sub (show fd ≤ en by omega), q1, Option.bind_some, nI_add, hone]
              exact hr
      obtain ⟨r, r1, r2, r3⟩ := loop 3 1 0 rfl (Nat.le_refl 1) (by rw [Nat.zero_add, ← hT]; exact Nat.le_refl _) (Or.inr (by rw [Nat.zero_add, ← hT]; rfl))
      exact ⟨r, r1 F (by omega), r2, r3⟩
    · rw [if_neg (by rw [show (0 : Int32) = nI 0 from rfl, nI_eq (adn_lt (by omega)) (by omega)]; exact hdead)]
      refine ⟨0, rfl, Nat.zero_le _, Or.inl ?_⟩
      unfold bareS at hdead
      rw [nb_adn (by omega)] at hdead
      obtain ⟨i, hi, hbit⟩ := nb_ne.mp hdead
      simp only [hi, decide_true, Bool.true_and, Bool.and_eq_true, decide_eq_true_eq, Bool.not_eq_true', Bool.or_eq_false_iff] at hbit
      obtain ⟨⟨b1, b2⟩, ⟨b3, b4⟩, b5⟩ := hbit
      have hno : ∀ p, 1 ≤ p → p ≤ 3 → ok1 g Q c i p = false := by
        intro p p1 p3
        have : (decide (i < pn g) && (decide (c i = 0) && (decide (p ≤ pP g) && wellA g c i p)) && Q p) = false := by
          rcases (show p = 1 ∨ p = 2 ∨ p = 3 by omega) with rfl | rfl | rfl
          · exact b3
          · exact b4
          · exact b5
        simp only [b1, b2, decide_true, Bool.true_and] at this
        unfold ok1
        rw [Bool.and_comm]; exact this
      have hd0 : fil g Q (s :: l) c = [] := fil_dead (s := i) (s :: l) c ((hmem i).mpr ⟨b1, b2⟩) (by rw [← hl]; exact zl_nodup _ _) (fun t ht => ((hmem t).mp ht).2) hno
      rw [hd0]; rfl
/-- all ways -/
def allP : Nat → Bool := fun _ => true
theorem fit_all {g : JP} {c : Nat → Nat} : fitS g c &&& nbp (fun _ p => allP p) = fitS g c := by
  unfold fitS
  rw [nbp_and]
  exact nbp_cong (fun s p _ _ _ => by simp [allP])
def waysN (g : JP) (c : Nat → Nat) : Nat := (fil g allP (zl c (pn g) 0) c).length
theorem waysN_le {g : JP} (hg : GOK g) (c : Nat → Nat) : waysN g c ≤ 19683 := by
  have h1 := fil_len g allP (zl c (pn g) 0) c
  have h2 := zl_len (c := c) (pn g) 0
  have h3 := hg.2.2.1
  have h4 := Nat.pow_le_pow_right (n := 3) (by omega) (Nat.le_trans h2 h3)
  exact Nat.le_trans h1 (Nat.le_trans h4 (by decide))
theorem x_ways {g : JP} (hg : GOK g) {all fc fit pg0 pg1 : Int32} {ro : Nat → Int32} (hX : XS g all fc fit pg0 pg1 ro) {c : Nat → Nat} (hc : CG g c) {F : Nat} (hF : 29 ≤ F) : fX8_waysToFill F (nI (nb 9 (fun s => decide (pO g s = 9)))) all fit ro (nI (wornS c)) = some (nI (waysN g c)) := by
  unfold fX8_waysToFill
  rw [x_fitting hg hX hc hF, Option.bind_some, hX.1, x_bare hg hc, Option.bind_some]
  have hn := hg.2.2.1
  have hl := zl_len (c := c) (pn g) 0
  obtain ⟨r, h1, h2, h3⟩ := x_fillings hg hX allP (F := F) (by omega) (zl c (pn g) 0) c 20000 0 11 hc rfl (by omega) (by omega) (by omega) (by omega)
  rw [fit_all] at h1
  have hw := waysN_le hg c
  have hr : r = waysN g c := by
    unfold waysN at hw ⊢
    rcases h3 with h | h
    · exact h
    · omega
  rw [show (20000 : Int32) = nI 20000 from rfl, show (0 : Int32) = nI 0 from rfl, h1, Option.bind_some, hr]
theorem x_canBeDone {g : JP} (hg : GOK g) {all fc fit pg0 pg1 : Int32} {ro : Nat → Int32} (hX : XS g all fc fit pg0 pg1 ro) {c : Nat → Nat} (hc : CG g c) {F : Nat} (hF : 29 ≤ F) : fX8_canBeDone F (nI (nb 9 (fun s => decide (pO g s = 9)))) all fit ro (nI (wornS c)) = some (nI (decide (waysN g c ≠ 0)).toNat) := by
  unfold fX8_canBeDone
  rw [x_fitting hg hX hc hF, Option.bind_some, hX.1, x_bare hg hc, Option.bind_some]
  have hn := hg.2.2.1
  have hl := zl_len (c := c) (pn g) 0
  obtain ⟨r, h1, h2, h3⟩ := x_fillings hg hX allP (F := F) (by omega) (zl c (pn g) 0) c 1 0 11 hc rfl (by omega) (by omega) (by omega) (by omega)
  rw [fit_all] at h1
  have hw := waysN_le hg c
  have hr : r = 0 ↔ waysN g c = 0 := by
    unfold waysN at hw ⊢
    rcases h3 with h | h
    · rw [h]
    · omega
  have hr2 : r < 2 ^ 31 := by unfold waysN at hw; omega
  rw [show (1 : Int32) = nI 1 from rfl, show (0 : Int32) = nI 0 from rfl, h1, Option.bind_some]
  by_cases e : r = 0
  · rw [if_pos (by rw [e]), decide_eq_false (show ¬ waysN g c ≠ 0 from fun h => h (hr.mp e))]; rfl
  · rw [if_neg (by rw [nI_eq hr2 (by omega)]; exact e), decide_eq_true (show waysN g c ≠ 0 from fun h => e (hr.mpr h))]; rfl
