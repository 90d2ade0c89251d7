/-! rain, told rows, counts, texts written -/
def looseS (g : JP) (c : Nat → Nat) : Nat := nbp (fun s p => decide (c s = p) && !decide (pO g s = p))
theorem looseS_lt31 (g : JP) (c : Nat → Nat) : looseS g c < 2 ^ 31 := nbp_lt31 _
theorem x_loose (g : JP) (c : Nat → Nat) : fX9_loose (nI (wornS c)) (nI (wornS (pO g))) = some (nI (looseS g c)) := by
  unfold fX9_loose wornS
  rw [ni_m1, ni_adn, nbp_adn]; rfl
theorem loose_ct {g : JP} (hg : GOK g) {w : JW} (hW : WOK g w) : fb_ct (looseS g w.1).testBit 32 = w.2.1.length := by
  unfold looseS
  rw [ct27, ← ct_mem w.2.1 9 hW.2.2.1 (fun s hs => Nat.lt_of_lt_of_le (hW.lt hg hs).1 hg.2.2.1), ct_sm]
  refine fb_sm_cong (fun s _ => ?_)
  simp only [fb_ct_succ, fb_ct, decide_eq_true_eq]
  have ho := hW.2.2.2.1 s
  have hold := hW.2.2.2.2.1 s
  have hP := hW.2.2.2.2.2 s
  have hP3 := hg.2.2.2.2.1
  by_cases hm : s ∈ w.2.1
  · have h := hW.lt hg hm
    rw [if_pos hm, h.2.2.2]
    rcases (show w.1 s = 1 ∨ w.1 s = 2 ∨ w.1 s = 3 by omega) with e | e | e <;> rw [e] <;> decide
  · rw [if_neg hm]
    by_cases h0 : pO g s = 0
    · have : w.1 s = 0 := Classical.byContradiction (fun e => hm (ho.mpr ⟨h0, e⟩))
      rw [this, h0]; decide
    · have := hold h0
      rw [this]
      rcases hg.2.2.2.2.2.2.2.1 s with q | q
      · rcases (show pO g s = 1 ∨ pO g s = 2 ∨ pO g s = 3 by omega) with e | e | e <;> rw [e] <;> decide
      · rw [q]; decide
def washK : Nat → JW → JW
  | 0, w => w
  | k + 1, w => washK k (washW w)
theorem snoc_of {l : List Nat} (h : 0 < l.length) : ∃ l' s, l = l' ++ [s] := by
  have hne : l ≠ [] := by intro e; rw [e] at h; exact absurd h (Nat.lt_irrefl 0)
  exact ⟨l.dropLast, l.getLast hne, (List.dropLast_concat_getLast hne).symm⟩
theorem worn_wash {c : Nat → Nat} {s : Nat} (hs : s < 9) : fX3_withoutPaint (nI (wornS c)) ((1 : Int32) <<< (nI s &&& 31)) = some (nI (wornS (upc c s 0))) := by
  have e1 : (1 : Int32) <<< (nI s &&& 31) = nI (2 ^ s) := by
    have := ni_shl 1 (j := s) (by omega)
    rw [Nat.one_mul] at this; exact this
  rw [e1]
  unfold wornS
  rw [x_withoutPaint (Nat.pow_lt_pow_right (by omega) hs)]
  refine congrArg (fun z => some (nI z)) (nbp_cong (fun t p _ hp _ => ?_))
  rw [Nat.testBit_two_pow]
  unfold upc
  by_cases e : t = s
  · subst e
    rw [if_pos rfl]
    have : ¬ 0 = p := by omega
    simp [this]
  · rw [if_neg e]
    have : ¬ s = t := fun q => e q.symm
    simp [this]
theorem x_wash {g : JP} (hg : GOK g) {w : JW} (hW : WOK g w) {k F : Nat} (hk : k ≤ w.2.1.length) (hk3 : k ≤ 3) (hF : 10 ≤ F) (tu : Int32) (pl : Int32) (pa : Nat → Int64) : WOK g (washK k w) ∧ lX7_washOff_6 F tu (nI k) F (0 : Int32) (nI (wornS w.1)) (lN (encO w.2.1)) pl pa = some (nI (wornS (washK k w).1), lN (encO (washK k w).2.1), pl, pa) := by
  have hfin : ∀ m (u : JW), WOK g u → m ≤ u.2.1.length → WOK g (washK m u) := by
    intro m
    induction m with
    | zero => intro u hu _; exact hu
    | succ m ih =>
      intro u hu hm
      obtain ⟨c, o, t⟩ := u
      obtain ⟨l, s, hl⟩ := snoc_of (l := o) (by have : m + 1 ≤ o.length := hm; omega)
      subst hl
      show WOK g (washK m (washW (c, l ++ [s], t)))
      rw [washW_snoc]
      refine ih _ (hu.wash hg) ?_
      have hm : m + 1 ≤ (l ++ [s]).length := hm
      rw [List.length_append, List.length_singleton] at hm
      show m ≤ l.length
      omega
  refine ⟨hfin k w hW hk, ?_⟩
  unfold lX7_washOff_6
  refine jl_run5 (fun m x a b c f => ∃ (i : Nat) (u : JW), x = nI i ∧ i + m = k ∧ a = nI (wornS u.1) ∧ b = lN (encO u.2.1) ∧ c = pl ∧ f = pa ∧ WOK g u ∧ m ≤ u.2.1.length ∧ washK m u = washK k w) ?_ F k _ _ _ _ _ ⟨0, w, rfl, by omega, rfl, rfl, rfl, rfl, hW, hk, rfl⟩ (by omega)
  rintro m x a b c f ⟨i, u, rfl, hi, rfl, rfl, rfl, rfl, hu, hm, he⟩
  have e9 : ¬ 9 ≤ i := by omega
  rcases Nat.eq_zero_or_pos m with h0 | h0
  · left; intro k6
    subst h0
    have : i = k := by omega
    subst this
    unfold bX7_washOff_6
    simp (disch := omega) only [fa_lit, ni_bit, b2n_0, b2n_1, ni_m1, ni_of1, ni_ofm1, nI_add, pk_mul, nI_clamp, ni_lt, ni_le, ni_eq, ni_l, fa_litL, ln_le, ln_lt, ln_eq, jl_let_eq, Option.bind_some, ↓reduceIte, e9, Nat.le_refl]
    rw [← he]; rfl
  · right
    obtain ⟨c0, o, t0⟩ := u
    obtain ⟨m', rfl⟩ : ∃ m', m = m' + 1 := ⟨m - 1, by omega⟩
    have hm : m' + 1 ≤ o.length := hm
    obtain ⟨l, s, hl⟩ := snoc_of (l := o) (by omega)
    subst hl
    have hpk := hu.pk hg
    have hs9 : s < 9 := hpk.2.1 s (by simp)
    have henc : encO (l ++ [s]) < 2 ^ 36 := hpk.enc
    have hwl : washK (m' + 1) (c0, l ++ [s], t0) = washK m' (upc c0 s 0, l, t0) := by
      show washK m' (washW (c0, l ++ [s], t0)) = _
      rw [washW_snoc]
    rw [List.length_append, List.length_singleton] at hm
    refine ⟨m', nI (i + 1), nI (wornS (upc c0 s 0)), lN (encO l), c, f, by omega, ⟨i + 1, (upc c0 s 0, l, t0), rfl, by omega, rfl, rfl, rfl, rfl, hu.wash hg, by show m' ≤ l.length; omega, by rw [← he, hwl]⟩, ?_⟩
    intro k6
    unfold bX7_washOff_6
    have e1 : ¬ k ≤ i := by omega
    have l15 : (15 : Int64) = lN (2 ^ 4 - 1) := by decide
    have ee : encO (l ++ [s]) = encO l * 16 + s := encO_snoc l s
    have d1 : ((lN (encO (l ++ [s]))) &&& (15 : Int64)).toInt32 = nI s := by
      rw [l15, wb_mask (by omega) (by omega), lN_i, ee]; congr 1; omega
    have d2 : ((lN (encO (l ++ [s]))).toUInt64 >>> ((4 : Int32).toInt64.toUInt64 &&& Int64.toUInt64 63)).toInt64 = lN (encO l) := by
      rw [show (4 : Int32) = nI 4 from rfl, wb_shr (by omega) (by omega), ee]; congr 1; omega
    simp only [jl_let_eq, d1, d2, worn_wash hs9, Option.bind_some]
    simp (disch := omega) only [fa_lit, ni_bit, b2n_0, b2n_1, ni_m1, ni_of1, ni_ofm1, nI_add, pk_mul, nI_clamp, ni_lt, ni_le, ni_eq, ni_l, fa_litL, ln_le, ln_lt, ln_eq, jl_let_eq, Option.bind_some, ↓reduceIte, e9, e1]
theorem rain_model {g : JP} (hg : GOK g) {w : JW} (hW : WOK g w) {slot : Nat → Int32} (hS : SW slot 0 w) {n F : Nat} (hn : n ≤ 3) (hF : 10 ≤ F) (dn : Int32) : ∃ slot', lX10_rain_33 F (nI n) F (0 : Int32) dn slot = some (nI (min n w.2.1.length), dn, slot') ∧ SW slot' 0 (washK (min n w.2.1.length) w) ∧ ∀ j, 20 ≤ j → slot' j = slot j := by
  have key : ∀ m i (u : JW) (s0 : Nat → Int32), m ≤ u.2.1.length → i + m = min n w.2.1.length → (m = 0 → i = n ∨ u.2.1.length = 0) → (u.2.1.length + i = w.2.1.length) → WOK g u → SW s0 0 u → ∃ s1 : Nat → Int32, (∀ N, m < N → jl_loop3 (bX10_rain_33 F (nI n)) N (nI i) dn s0 = some (nI (min n w.2.1.length), dn, s1)) ∧ SW s1 0 (washK m u) ∧ ∀ j, 20 ≤ j → s1 j = s0 j := by
    intro m
    induction m with
    | zero =>
      intro i u s0 hm hi hz hlen hu hs
      refine ⟨s0, fun N hN => ?_, hs, fun _ _ => rfl⟩
      obtain ⟨N', rfl⟩ : ∃ N', N = N' + 1 := ⟨N - 1, by omega⟩
      rw [jl_loop3_s]
      unfold bX10_rain_33
      have e18 := hs.2.2.1
      rw [Nat.mul_zero, Nat.zero_add] at e18
      have hl := hu.len9 hg
      rcases hz rfl with q | q
      · rw [if_pos (by rw [nI_leI (by omega) (by omega)]; omega)]
        rw [show i = min n w.2.1.length by omega]
      · rw [c18, e18, q]
        have : min n w.2.1.length = i := by omega
        rw [this]
        split
        · rfl
        · rfl
    | succ m ih =>
      intro i u s0 hm hi hz hlen hu hs
      obtain ⟨c0, o, t0⟩ := u
      have hm : m + 1 ≤ o.length := hm
      obtain ⟨l, s, hl⟩ := snoc_of (l := o) (by omega)
      subst hl
      have hll : (l ++ [s]).length = l.length + 1 := by simp
      have hu2 : WOK g (upc c0 s 0, l, t0) := hu.wash hg
      have hul : (l ++ [s]).length ≤ 9 := hu.len9 hg
      have hs9 : s < 9 := (hu.pk hg).2.1 s (by simp)
      have hlen : (l ++ [s]).length + i = w.2.1.length := hlen
      obtain ⟨a1, a2, a3, a4⟩ := hs
      rw [Nat.mul_zero, Nat.zero_add] at a3 a4
      let s1 := upd (upd s0 18 (nI l.length)) s (nI 0)
      have hs1 : SW s1 0 (upc c0 s 0, l, t0) := by
        refine ⟨fun t ht => ?_, fun q hq => ?_, ?_, ?_⟩
        · have := a1 t ht
          rw [Nat.mul_zero, Nat.zero_add] at this ⊢
          show upd (upd s0 18 (nI l.length)) s (nI 0) t = nI (upc c0 s 0 t)
          unfold upc
          by_cases e : t = s
          · rw [upd_s e, if_pos e]
          · rw [upd_n e, if_neg e, upd_n (by omega)]; exact this
        · have hq : q < l.length := hq
          have := a2 q (by show q < (l ++ [s]).length; omega)
          rw [Nat.mul_zero, Nat.zero_add] at this ⊢
          show upd (upd s0 18 (nI l.length)) s (nI 0) (9 + q) = nI (l.getD q 0)
          rw [upd_n (by omega), upd_n (by omega), this]
          show nI ((l ++ [s]).getD q 0) = nI (l.getD q 0)
          simp only [List.getD_eq_getElem?_getD]
          rw [List.getElem?_append_left hq]
        · show upd (upd s0 18 (nI l.length)) s (nI 0) (20 * 0 + 18) = nI l.length
          rw [upd_n (by omega), upd_s (by omega)]
        · show upd (upd s0 18 (nI l.length)) s (nI 0) (20 * 0 + 19) = nI t0
          rw [upd_n (by omega), upd_n (by omega)]; exact a4
      obtain ⟨s2, g1, g2, g3⟩ := ih (i + 1) (upc c0 s 0, l, t0) s1 (by show m ≤ l.length; omega) (by omega) (by
        intro hm0
        show i + 1 = n ∨ l.length = 0
        omega) (by show l.length + (i + 1) = _; omega) hu2 hs1
      refine ⟨s2, fun N hN => ?_, ?_, fun j hj => ?_⟩
      · obtain ⟨N', rfl⟩ : ∃ N', N = N' + 1 := ⟨N - 1, by omega⟩
        rw [jl_loop3_s]
        unfold bX10_rain_33
        have b0 : ¬ n ≤ i := by omega
        have b1 : ¬ (l ++ [s]).length ≤ 0 := by omega
        have b2 : ¬ 240 ≤ 9 + l.length := by omega
        have b3 : ¬ 240 ≤ s := by omega
        have b4 : (nI (l ++ [s]).length - nI 1) = nI l.length := by rw [hll]; exact nI_pred _
        have e1 : upd s0 18 (nI l.length) 18 = nI l.length := upd_s rfl
        have e2 : upd s0 18 (nI l.length) (9 + l.length) = nI s := by
          rw [upd_n (by omega)]
          have := a2 l.length (by show l.length < (l ++ [s]).length; omega)
          rw [Nat.mul_zero, Nat.zero_add] at this
          rw [this]; show nI ((l ++ [s]).getD l.length 0) = nI s; simp
        have a3' : s0 18 = nI (l ++ [s]).length := a3
        rw [c18, a3']
        simp (disch := omega) only [fa_lit, jl_let_eq, ni_le, b0, b1, if_false, b4, e1, nI_add, ni_lt, nI_clamp, b2, Nat.not_lt_zero, or_self, e2, b3, ni_of1]
        exact g1 N' (by omega)
      · show SW s2 0 (washK m (washW (c0, l ++ [s], t0)))
        rw [washW_snoc]; exact g2
      · rw [g3 j hj]
        show upd (upd s0 18 (nI l.length)) s (nI 0) j = s0 j
        rw [upd_n (by omega), upd_n (by omega)]
  obtain ⟨s1, h1, h2, h3⟩ := key (min n w.2.1.length) 0 w slot (Nat.min_le_right _ _) (by omega) (by
    intro h
    rcases Nat.eq_zero_or_pos n with q | q
    · left; exact q.symm
    · right; omega) (by omega) hW hS
  exact ⟨s1, h1 F (by omega), h2, h3⟩
theorem st_rain : St_rain Inv_ := by
  intro x_text_length x_text_bytes_ x_reader_at x_reader_first x_reader_second x_reader_stoneTold x_reader_paintTold x_wall_worn x_wall_turn x_wall_order x_wall_pastLength x_wall_heldLength x_wall_past_ x_wall_held_ x_row_length x_row_paintings_ x_game_known_ x_lot_above x_lot_below x_laid_rows x_laid_columns x_laid_paints x_laid_apart x_laid_paintsOf0 x_laid_paintsOf1 x_laid_old x_laid_shut x_laid_all x_laid_firstColumn x_laid_fitsAtFirst x_laid_paintingsOf0 x_laid_paintingsOf1 x_laid_ruledOut_ x_spare_rows x_spare_columns x_spare_paints x_spare_apart x_spare_paintsOf0 x_spare_paintsOf1 x_spare_old x_spare_shut x_spare_all x_spare_firstColumn x_spare_fitsAtFirst x_spare_paintingsOf0 x_spare_paintingsOf1 x_spare_ruledOut_ y_length y_at y_stones y_kept y_done y_rows y_frees y_fewest y_text_ y_told_ y_touches_ y_has_ y_old_ y_beside_ y_slot_ y_row_ y_free_ y_worth_ y_fore_ y_back_ y_got_
  intro p1 hI
  have hI0 := hI
  replace hI : InvC x_text_length x_text_bytes_ x_reader_at x_reader_first x_reader_second x_reader_stoneTold x_reader_paintTold x_wall_worn x_wall_turn x_wall_order x_wall_pastLength x_wall_heldLength x_wall_past_ x_wall_held_ x_row_length x_row_paintings_ x_game_known_ x_lot_above x_lot_below x_laid_rows x_laid_columns x_laid_paints x_laid_apart x_laid_paintsOf0 x_laid_paintsOf1 x_laid_old x_laid_shut x_laid_all x_laid_firstColumn x_laid_fitsAtFirst x_laid_paintingsOf0 x_laid_paintingsOf1 x_laid_ruledOut_ x_spare_rows x_spare_columns x_spare_paints x_spare_apart x_spare_paintsOf0 x_spare_paintsOf1 x_spare_old x_spare_shut x_spare_all x_spare_firstColumn x_spare_fitsAtFirst x_spare_paintingsOf0 x_spare_paintingsOf1 x_spare_ruledOut_ y_length y_at y_stones y_kept y_done y_rows y_frees y_fewest y_text_ y_told_ y_touches_ y_has_ y_old_ y_beside_ y_slot_ y_row_ y_free_ y_worth_ y_fore_ y_back_ y_got_ := hI
  obtain ⟨g, w, d, ps, e, ks, r, rs, len, hg, hIT, hXU, hXS, hMR, hIW, hIP, hIH, hIR, hMem⟩ := hI
  obtain ⟨hW, rfl, rfl, rfl, hSW⟩ := hIW
  have hin : fX10_in p1.toInt64 1 3 = some (nI (isP p1 3).toNat) := by
    rw [in_ok, i2l_toInt]; rfl
  have e0 : (p1 < 1) = (p1.toInt < 1) := by rw [fa_lt]; rfl
  have e1 : (p1 ≤ 3) = (p1.toInt ≤ 3) := by rw [fa_le]; rfl
  cases hp : isP p1 3
  · refine ⟨((-1 : Int32), nI (wornS w.1), lN (encO w.2.1), x_wall_pastLength, x_wall_past_), ((-1 : Int32), y_done, y_slot_), ?_, ?_, Eq.refl (-1 : Int32), hI0⟩
    · unfold fX9_rain
      simp only [e0, e1]
      unfold isP at hp
      simp only [Bool.and_eq_false_iff, decide_eq_false_iff_not] at hp
      by_cases h1 : p1.toInt < 1
      · rw [if_pos h1]
      · rw [if_neg h1, if_neg (by omega)]
    · unfold fX10_rain
      rw [hin, hp]; rfl
  · obtain ⟨n, n1, n3, rfl⟩ := (isP_iff (by omega)).mp hp
    have hlc := loose_ct hg hW
    have hl9 := hW.len9 hg
    have e18 := hSW.2.2.1
    rw [Nat.mul_zero, Nat.zero_add] at e18
    have hmin : (if nI w.2.1.length < nI n then nI w.2.1.length else nI n) = nI (min n w.2.1.length) := by
      simp (disch := omega) only [ni_lt]
      split
      · next h => rw [Nat.min_eq_right (by omega)]
      · next h => rw [Nat.min_eq_left (by omega)]
    have hX : ∀ E, (if nI (min n w.2.1.length) = 0 then some ((-2 : Int32), nI (wornS w.1), lN (encO w.2.1), x_wall_pastLength, x_wall_past_) else (fX7_washOff FU (nI (wornS w.1)) (nI w.2.2) (lN (encO w.2.1)) x_wall_pastLength x_wall_past_ (nI (min n w.2.1.length))).bind fun r9 => some (nI (min n w.2.1.length), r9.1, r9.2.1, r9.2.2.1, r9.2.2.2)) = E → fX9_rain FU (nI (wornS w.1)) (nI w.2.2) (lN (encO w.2.1)) x_wall_pastLength x_wall_past_ x_laid_old (nI n) = E := by
      intro E hE
      unfold fX9_rain
      rw [if_neg (by rw [e0, nI_toInt (by omega)]; omega), if_pos (by rw [e1, nI_toInt (by omega)]; omega), hXU.2.2.2.2.2.2.1, x_loose, Option.bind_some, bitCount_ok (looseS_lt31 _ _), Option.bind_some, hlc]
      simp only [jl_let_eq, hmin]
      exact hE
    rcases Nat.eq_zero_or_pos w.2.1.length with h0 | h0
    · refine ⟨((-2 : Int32), nI (wornS w.1), lN (encO w.2.1), x_wall_pastLength, x_wall_past_), ((-2 : Int32), y_done, y_slot_), ?_, ?_, Eq.refl (-2 : Int32), hI0⟩
      · apply hX
        rw [h0, Nat.min_zero, if_00]
      · unfold fX10_rain
        rw [hin, hp, Option.bind_some, if_t, c18, e18, h0, if_00]
    · obtain ⟨past', slot1, q1, q2, q3, q4⟩ := note_inv hg hW hSW hIP (FU_ge (n := 21) (by omega))
      have hSW1 : SW slot1 0 w := hSW.kept hl9 (fun j _ j2 => q3 j (by omega))
      obtain ⟨slot2, r1, r2, r3⟩ := rain_model hg hW hSW1 n3 (FU_ge (n := 10) (by omega)) (nI (pushD d))
      have hk1 : min n w.2.1.length ≤ w.2.1.length := Nat.min_le_right _ _
      have hk2 : min n w.2.1.length ≤ 3 := by omega
      have hk3 : 1 ≤ min n w.2.1.length := by omega
      obtain ⟨w1, w2⟩ := x_wash hg hW hk1 hk2 (FU_ge (n := 10) (by omega)) (nI w.2.2) (nI (pushD d)) past'
      generalize hK : min n w.2.1.length = K at *
      have hturn : (washK K w).2.2 = w.2.2 := by
        have : ∀ m (u : JW), (washK m u).2.2 = u.2.2 := by
          intro m
          induction m with
          | zero => intro u; rfl
          | succ m ih =>
            intro u
            show (washK m (washW u)).2.2 = _
            rw [ih]; unfold washW; split <;> rfl
        exact this _ _
      refine ⟨(nI K, nI (wornS (washK K w).1), lN (encO (washK K w).2.1), nI (pushD d), past'), (nI K, nI (pushD d), slot2), ?_, ?_, Eq.refl (nI K), ?_⟩
      · apply hX
        rw [if_neg (by rw [show (0 : Int32) = nI 0 from rfl, nI_eq (by omega) (by omega)]; omega)]
        unfold fX7_washOff
        rw [q1, Option.bind_some]
        dsimp only
        rw [w2]; rfl
      · unfold fX10_rain
        rw [hin, hp, Option.bind_some, if_t, c18, e18, if_neg (by rw [show (0 : Int32) = nI 0 from rfl, nI_eq (by omega) (by omega)]; omega), q2, Option.bind_some]
        exact r1
      · have z1 := past_kept (slot' := slot2) hg q4 (fun j j1 _ => r3 j (by omega))
        have z2 := held_kept (slot' := slot2) hg hIH (fun j j1 j2 => by rw [r3 j (by omega), q3 j (by omega)])
        exact ⟨g, washK K w, pushD d, pushP d ps w, e, ks, r, rs, len, hg, hIT, hXU, hXS, hMR, ⟨w1, rfl, by rw [hturn], rfl, r2⟩, z1, z2, hIR, hMem⟩
theorem st_tell : St_tell Inv_ := by
  intro x_text_length x_text_bytes_ x_reader_at x_reader_first x_reader_second x_reader_stoneTold x_reader_paintTold x_wall_worn x_wall_turn x_wall_order x_wall_pastLength x_wall_heldLength x_wall_past_ x_wall_held_ x_row_length x_row_paintings_ x_game_known_ x_lot_above x_lot_below x_laid_rows x_laid_columns x_laid_paints x_laid_apart x_laid_paintsOf0 x_laid_paintsOf1 x_laid_old x_laid_shut x_laid_all x_laid_firstColumn x_laid_fitsAtFirst x_laid_paintingsOf0 x_laid_paintingsOf1 x_laid_ruledOut_ x_spare_rows x_spare_columns x_spare_paints x_spare_apart x_spare_paintsOf0 x_spare_paintsOf1 x_spare_old x_spare_shut x_spare_all x_spare_firstColumn x_spare_fitsAtFirst x_spare_paintingsOf0 x_spare_paintingsOf1 x_spare_ruledOut_ y_length y_at y_stones y_kept y_done y_rows y_frees y_fewest y_text_ y_told_ y_touches_ y_has_ y_old_ y_beside_ y_slot_ y_row_ y_free_ y_worth_ y_fore_ y_back_ y_got_
  intro p1 p2 hI
  have hI0 := hI
  replace hI : InvC x_text_length x_text_bytes_ x_reader_at x_reader_first x_reader_second x_reader_stoneTold x_reader_paintTold x_wall_worn x_wall_turn x_wall_order x_wall_pastLength x_wall_heldLength x_wall_past_ x_wall_held_ x_row_length x_row_paintings_ x_game_known_ x_lot_above x_lot_below x_laid_rows x_laid_columns x_laid_paints x_laid_apart x_laid_paintsOf0 x_laid_paintsOf1 x_laid_old x_laid_shut x_laid_all x_laid_firstColumn x_laid_fitsAtFirst x_laid_paintingsOf0 x_laid_paintingsOf1 x_laid_ruledOut_ x_spare_rows x_spare_columns x_spare_paints x_spare_apart x_spare_paintsOf0 x_spare_paintsOf1 x_spare_old x_spare_shut x_spare_all x_spare_firstColumn x_spare_fitsAtFirst x_spare_paintingsOf0 x_spare_paintingsOf1 x_spare_ruledOut_ y_length y_at y_stones y_kept y_done y_rows y_frees y_fewest y_text_ y_told_ y_touches_ y_has_ y_old_ y_beside_ y_slot_ y_row_ y_free_ y_worth_ y_fore_ y_back_ y_got_ := hI
  obtain ⟨g, w, d, ps, e, ks, r, rs, len, hg, hIT, hXU, hXS, hMR, hIW, hIP, hIH, hIR, hMem⟩ := hI
  obtain ⟨hn1, hn9, hR9, hC9⟩ := gn hg
  have hP3 := hg.2.2.2.2.1
  obtain ⟨hr, rfl, rfl, hrs⟩ := hIR
  have hx := x_hasStone hn9 hR9 hC9 p1
  have hx2 := x_hasPaint hP3 p2
  cases e1 : isN p1 (pn g)
  · refine ⟨((-1 : Int32), nI r, x_row_paintings_), ((-1 : Int32), nI r, y_row_), ?_, ?_, Eq.refl (-1 : Int32), hI0⟩
    · unfold fX9_tell
      rw [hXU.1, hXU.2.1, hx, show pR g * pC g = pn g from rfl, e1]; rfl
    · unfold fX10_tell
      rw [hMR.1, isStone_ok hn1 hn9, e1]; rfl
  · obtain ⟨s, hs, -, rfl⟩ := isN_iff.mp e1
    cases e2 : isP p2 (pP g)
    · refine ⟨((-1 : Int32), nI r, x_row_paintings_), ((-1 : Int32), nI r, y_row_), ?_, ?_, Eq.refl (-1 : Int32), hI0⟩
      · unfold fX9_tell
        rw [hXU.1, hXU.2.1, hx, show pR g * pC g = pn g from rfl, e1, Option.bind_some, if_t, hXU.2.2.1, hx2, e2]; rfl
      · unfold fX10_tell
        rw [hMR.1, isStone_ok hn1 hn9, e1, Option.bind_some, if_t, isPaint_ok hP3 hMR.2.1.2.2, e2]; rfl
    · obtain ⟨p, q1, q2, rfl⟩ := (isP_iff hP3).mp e2
      by_cases h9 : r = 9
      · subst h9
        refine ⟨((-3 : Int32), nI 9, x_row_paintings_), ((-3 : Int32), nI 9, y_row_), ?_, ?_, Eq.refl (-3 : Int32), hI0⟩
        · unfold fX9_tell fX5_add
          rw [hXU.1, hXU.2.1, hx, show pR g * pC g = pn g from rfl, e1, Option.bind_some, if_t, hXU.2.2.1, hx2, e2, Option.bind_some, if_t, x_painting (by omega) q1 (by omega), Option.bind_some, if_neg (by decide), if_neg (by decide)]; rfl
        · unfold fX10_tell
          rw [hMR.1, isStone_ok hn1 hn9, e1, Option.bind_some, if_t, isPaint_ok hP3 hMR.2.1.2.2, e2, Option.bind_some, if_t, if_pos (by decide)]
      · have hr9 : r < 9 := by omega
        refine ⟨(nI (r + 1), nI (r + 1), upd x_row_paintings_ r (nI (2 ^ (9 * (p - 1) + s)))), (nI (r + 1), nI (r + 1), upd (upd y_row_ (2 * r) (nI s)) (2 * r + 1) (nI p)), ?_, ?_, Eq.refl (nI (r + 1)), ?_⟩
        · unfold fX9_tell fX5_add
          rw [hXU.1, hXU.2.1, hx, show pR g * pC g = pn g from rfl, e1, Option.bind_some, if_t, hXU.2.2.1, hx2, e2, Option.bind_some, if_t, x_painting (by omega) q1 (by omega), Option.bind_some]
          have a0 : ¬ 9 ≤ r := by omega
          simp (disch := omega) only [fa_lit, ni_bit, b2n_0, b2n_1, ni_m1, ni_of1, ni_ofm1, nI_add, pk_mul, nI_clamp, ni_lt, ni_le, ni_eq, ni_l, fa_litL, ln_le, ln_lt, ln_eq, jl_let_eq, Option.bind_some, ↓reduceIte, a0, hr9, Nat.not_lt_zero, or_self]
        · unfold fX10_tell
          rw [hMR.1, isStone_ok hn1 hn9, e1, Option.bind_some, if_t, isPaint_ok hP3 hMR.2.1.2.2, e2, Option.bind_some, if_t]
          have a0 : ¬ 18 ≤ 2 * r := by omega
          have a1 : ¬ 18 ≤ 2 * r + 1 := by omega
          simp (disch := omega) only [fa_lit, ni_bit, b2n_0, b2n_1, ni_m1, ni_of1, ni_ofm1, nI_add, pk_mul, nI_clamp, ni_lt, ni_le, ni_eq, ni_l, fa_litL, ln_le, ln_lt, ln_eq, jl_let_eq, Option.bind_some, ↓reduceIte, a0, a1, h9, Nat.not_lt_zero, or_self]
        · have z : IRo g (r + 1) (fun i => if i = r then (s, p) else rs i) (nI (r + 1)) (upd x_row_paintings_ r (nI (2 ^ (9 * (p - 1) + s)))) (nI (r + 1)) (upd (upd y_row_ (2 * r) (nI s)) (2 * r + 1) (nI p)) := by
            refine ⟨by omega, rfl, rfl, fun i hi => ?_⟩
            by_cases ei : i = r
            · subst ei
              simp only [if_true]
              exact ⟨hs, q1, q2, upd_s rfl, by rw [upd_n (by omega), upd_s rfl], upd_s rfl⟩
            · simp only [ei, if_false]
              obtain ⟨b1, b2, b3, b4, b5, b6⟩ := hrs i (by omega)
              exact ⟨b1, b2, b3, by rw [upd_n ei]; exact b4, by rw [upd_n (by omega), upd_n (by omega)]; exact b5, by rw [upd_n (by omega), upd_n (by omega)]; exact b6⟩
          exact ⟨g, w, d, ps, e, ks, r + 1, _, len, hg, hIT, hXU, hXS, hMR, hIW, hIP, hIH, z, hMem⟩
