/-! stones that only one can have painted -/
theorem x_isPainter (p : Int32) : fX9_isPainter p = some (nI (isN p 2).toNat) := by
  unfold fX9_isPainter
  cases h : isN p 2
  · obtain ⟨n0, n1⟩ := no01 h
    rw [if_neg n0, if_neg n1]; rfl
  · rcases is01 h with rfl | rfl
    · rfl
    · rfl
/-- this set shows that the stone can have been painted by the other one -/
def bad (g : JP) (w : JW) (i m s : Nat) : Bool := decide (adn m (frS w) = 0) && ((adn (frS w) m).testBit s && (!decide (fb_ct m.testBit 9 % 2 = i) && (bA g w (fb_ct m.testBit 9 % 2) s && (decide (0 < KF g w m) && decide (0 < KB g w (m ||| 2 ^ s))))))
def onlyS (g : JP) (w : JW) (i : Nat) : Nat := nb 9 (fun s => (frS w).testBit s && jall (fun m => !bad g w i m s) 512)
theorem KF_le {g : JP} {w : JW} {m : Nat} : KF g w m ≤ 362880 := by
  have ht := cX_tot (bA g w 0) (bA g w 1) m
  have h9 := fb_ct_le m.testBit 9
  unfold KF Kc
  exact KKL (by omega) (by omega)
theorem KB_le {g : JP} (hg : GOK g) {w : JW} (hW : WOK g w) {m : Nat} (hm : m < 2 ^ 9) (hsub : adn m (frS w) = 0) : KB g w m ≤ 362880 := by
  have ht := cX_tot (bA g w 0) (bA g w 1) (adn (frS w) m)
  have hc := sub_ct hm (frS_lt w) hsub
  rw [fr_ct hg hW] at hc
  have h9 := hW.len9 hg
  unfold KB Kc
  exact KKL (by omega) (by omega)
theorem only_in {g : JP} (hg : GOK g) {stones : Int32} {told touches has old beside slot : Nat → Int32} (hM : MR g stones told touches has old beside) {w : JW} (hW : WOK g w) (hS : SW slot 0 w) {F : Nat} (hF : 12 ≤ F) {i : Nat} (hi : i ≤ 1) {fore back : Nat → Int32} (hf : ∀ j, j < 512 → adn j (frS w) = 0 → fore j = nI (KF g w j)) (hb : ∀ j, j < 512 → adn j (frS w) = 0 → back j = nI (KB g w j)) {t : Nat} (ht : t < 512) (hsub : adn t (frS w) = 0) (K : Int32 → Int32 → Int32 → (Nat → Int32) → (Nat → Int32) → Option (Int32 × (Nat → Int32) × (Nat → Int32))) (P : Nat → Bool) :
    ∀ m u, u + m = pn g → ∀ f, m < f → jl_loop6 (bX10_only_42 F stones has slot (nI i) K) f (nI (frS w)) (nI (nb 9 (fun s => P s && !(decide (s < u) && bad g w i t s)))) (nI t) (nI u) fore back = K (nI (frS w)) (nI (nb 9 (fun s => P s && !(decide (s < pn g) && bad g w i t s)))) (nI (t + 1)) fore back := by
  obtain ⟨hn1, hn9, -, -⟩ := gn hg
  have hfr := frS_lt w
  intro m
  induction m with
  | zero =>
    intro u hu f hf'
    obtain ⟨f', rfl⟩ : ∃ f', f = f' + 1 := ⟨f - 1, by omega⟩
    have hone : nI t + Int32.ofInt 1 = nI (t + 1) := nI_add t 1
    rw [jl_loop6_s]; unfold bX10_only_42
    rw [hM.1, if_pos (by rw [nI_leI (by omega) (by omega)]; omega), jl_let_eq, hone, show u = pn g by omega]
  | succ m ih =>
    intro u hu f hf'
    obtain ⟨f', rfl⟩ : ∃ f', f = f' + 1 := ⟨f - 1, by omega⟩
    have hone : nI u + Int32.ofInt 1 = nI (u + 1) := nI_add u 1
    have hr := ih (u + 1) (by omega) f' (by omega)
    rw [jl_loop6_s]
    generalize jl_loop6 (bX10_only_42 F stones has slot (nI i) K) f' = L at hr ⊢
    have hRl : adn (frS w) t < 2 ^ 9 := adn_lt hfr
    have hcond : ((nI (frS w) &&& (nI t ^^^ (-1 : Int32))) &&& ((1 : Int32) <<< (nI u &&& 31)) = 0) ↔ (adn (frS w) t).testBit u = false := by
      rw [ni_m1, ni_adn, one_shl (by omega)]
      exact fa_bit (by omega)
    have hmt : fX10_many F (nI t) = some (nI (fb_ct t.testBit 9)) := many_ok (by omega) (by omega)
    have hct := fb_ct_le t.testBit 9
    -- nothing is taken away
    have keep : ∀ E, bad g w i t u = false → (fX10_only_147 F stones has slot (nI i) K L (nI (frS w)) (nI t) (nI u) (-1 : Int32) (nI (nb 9 (fun s => P s && !(decide (s < u) && bad g w i t s)))) fore back = E → E = K (nI (frS w)) (nI (nb 9 (fun s => P s && !(decide (s < pn g) && bad g w i t s)))) (nI (t + 1)) fore back) := by
      intro E hbad hE
      rw [← hE]
      unfold fX10_only_147
      have e : nI (nb 9 (fun s => P s && !(decide (s < u) && bad g w i t s))) &&& (-1 : Int32) = nI (nb 9 (fun s => P s && !(decide (s < u + 1) && bad g w i t s))) := by
        rw [show (-1 : Int32) = nI (2 ^ 32 - 1) from rfl, ni_and]
        refine congrArg nI ?_
        apply Nat.eq_of_testBit_eq; intro s
        rw [Nat.testBit_and, nb_tb, nb_tb, Nat.testBit_two_pow_sub_one]
        by_cases hs : s < 9
        · have h32 : s < 32 := by omega
          by_cases q : s = u
          · subst q; simp [hs, h32, hbad]
          · have : decide (s < u + 1) = decide (s < u) := by apply decide_eq_decide.mpr; omega
            rw [this]; simp [hs, h32]
        · simp [hs]
      rw [e, jl_let_eq, jl_let_eq, hone]
      exact hr
    have h103 : bad g w i t u = false → fX10_only_103 F stones has slot (nI i) K L (nI (frS w)) (nI (nb 9 (fun s => P s && !(decide (s < u) && bad g w i t s)))) (nI t) (nI u) fore back = K (nI (frS w)) (nI (nb 9 (fun s => P s && !(decide (s < pn g) && bad g w i t s)))) (nI (t + 1)) fore back := by
      intro hbad
      refine keep _ hbad ?_
      unfold fX10_only_103 fX10_only_104 fX10_only_146
      rw [if_pos rfl]
    unfold bX10_only_42
    rw [if_neg (by rw [hM.1, nI_leI (by omega) (by omega)]; omega), if_pos (by rw [ni_sub0 ht]; exact hsub)]
    cases htb : (adn (frS w) t).testBit u with
    | false =>
      rw [if_pos (hcond.mpr htb)]
      exact h103 (by unfold bad; rw [htb]; simp)
    | true =>
      have htb2 := htb
      rw [adn_tb (by omega), Bool.and_eq_true, Bool.not_eq_true'] at htb2
      have hfu := fr_lt hg hW htb2.1
      rw [if_neg (fun e => by rw [hcond.mp e] at htb; cases htb), hmt, Option.bind_some, show (2 : Int32) = nI 2 from rfl, pk_rem (by omega) (by omega) (by omega)]
      by_cases hpi : fb_ct t.testBit 9 % 2 = i
      · rw [if_pos (by rw [hpi])]
        exact h103 (by unfold bad; rw [decide_eq_true hpi]; simp)
      · rw [if_neg (by rw [nI_eq (by omega) (by omega)]; exact hpi), Option.bind_some, isBy_ok hM hS (s := u) (n := fb_ct t.testBit 9) (by omega) hfu.2.1 hfu.2.2.1 (by omega), Option.bind_some]
        cases hbA : bA g w (fb_ct t.testBit 9 % 2) u with
        | false =>
          rw [if_f]
          exact h103 (by unfold bad; rw [hbA]; simp)
        | true =>
          rw [if_t]
          have hKF := KF_le (g := g) (w := w) (m := t)
          have hol := or_lt (t := t) (s := u) (by omega) (by omega)
          have hos : adn (t ||| 2 ^ u) (frS w) = 0 := sub_of hol (fun s hs => by
            rw [Nat.testBit_or, Nat.testBit_two_pow, Bool.or_eq_true, decide_eq_true_eq] at hs
            rcases hs with hs | hs
            · exact sub_tb (by omega) hsub hs
            · rw [← hs]; exact htb2.1)
          have hKB := KB_le hg hW hol hos
          have hix : nI t ||| ((1 : Int32) <<< (nI u &&& 31)) = nI (t ||| 2 ^ u) := by rw [one_shl (by omega), ni_or]
          unfold fX10_only_104
          rw [if_neg (by decide), if_neg (in512 ht), nI_clamp (by omega), hf t ht hsub, hix, if_neg (in512 (by omega)), nI_clamp (by omega), hb _ (by omega) hos]
          by_cases z1 : 0 < KF g w t
          · rw [if_neg (by rw [show (0 : Int32) = nI 0 from rfl, nI_leI (by omega) (by omega)]; omega)]
            by_cases z2 : 0 < KB g w (t ||| 2 ^ u)
            · rw [if_neg (by rw [show (0 : Int32) = nI 0 from rfl, nI_leI (by omega) (by omega)]; omega)]
              have hbad : bad g w i t u = true := by
                unfold bad
                rw [decide_eq_true hsub, htb, decide_eq_false hpi, hbA, decide_eq_true z1, decide_eq_true z2]; rfl
              unfold fX10_only_147
              have e : nI (nb 9 (fun s => P s && !(decide (s < u) && bad g w i t s))) &&& (((1 : Int32) <<< (nI u &&& 31)) ^^^ (-1 : Int32)) = nI (nb 9 (fun s => P s && !(decide (s < u + 1) && bad g w i t s))) := by
                rw [one_shl (by omega), ni_m1, ni_adn]
                refine congrArg nI ?_
                apply Nat.eq_of_testBit_eq; intro s
                have hl9 := nb_lt 9 (fun s => P s && !(decide (s < u) && bad g w i t s))
                rw [adn_tb (by omega), nb_tb, nb_tb, Nat.testBit_two_pow]
                by_cases q : s = u
                · subst q; simp [hbad]
                · have h1 : decide (s < u + 1) = decide (s < u) := by apply decide_eq_decide.mpr; omega
                  have h2 : ¬ u = s := fun e => q e.symm
                  rw [h1]; simp [h2]
              rw [e, jl_let_eq, jl_let_eq, hone]
              exact hr
            · rw [if_pos (by rw [show (0 : Int32) = nI 0 from rfl, nI_leI (by omega) (by omega)]; omega)]
              refine keep _ (by unfold bad; rw [decide_eq_false z2]; simp) ?_
              unfold fX10_only_146; rfl
          · rw [if_pos (by rw [show (0 : Int32) = nI 0 from rfl, nI_leI (by omega) (by omega)]; omega)]
            refine keep _ (by unfold bad; rw [decide_eq_false z1]; simp) ?_
            unfold fX10_only_146; rfl
theorem only_m {g : JP} (hg : GOK g) {stones : Int32} {told touches has old beside slot : Nat → Int32} (hM : MR g stones told touches has old beside) {w : JW} (hW : WOK g w) (hS : SW slot 0 w) {F : Nat} (hF : 600 ≤ F) {i : Nat} (hi : i ≤ 1) (fore back : Nat → Int32) : ∃ fore' back', fX10_only F stones has slot fore back (nI i) = some (nI (if ordN g w = 0 then 0 else onlyS g w i), fore', back') := by
  obtain ⟨hn1, hn9, -, -⟩ := gn hg
  have hfr := frS_lt w
  obtain ⟨fo, ba, h1, h2, h3⟩ := ordersOf_ok hg hM hW hS hF fore back
  have hol : ordN g w < 2 ^ 31 := by
    have := KF_le (g := g) (w := w) (m := frS w)
    rw [KF_all hg hW] at this; omega
  refine ⟨fo, ba, ?_⟩
  unfold fX10_only
  have hin : isN (nI i) 2 = true := by rw [isN_nI (by omega)]; exact decide_eq_true (by omega)
  rw [in01, hin, Option.bind_some, if_t, fresh_ok hg hW hS (by omega), Option.bind_some, h1, Option.bind_some]
  by_cases h0 : ordN g w = 0
  · rw [if_pos (by rw [h0]; rfl), if_pos h0]; rfl
  · rw [if_neg (by rw [show (0 : Int32) = nI 0 from rfl, nI_eq hol (by omega)]; exact h0), if_neg h0]
    have key : ∀ m t, t + m = 512 → ∀ f, m < f → jl_loop5 (bX10_only_31 F stones has slot (nI i)) f (nI (frS w)) (nI (nb 9 (fun s => (frS w).testBit s && jall (fun m => !bad g w i m s) t))) (nI t) fo ba = some (nI (onlyS g w i), fo, ba) := by
      intro m
      induction m with
      | zero =>
        intro t ht f hf
        obtain ⟨f', rfl⟩ : ∃ f', f = f' + 1 := ⟨f - 1, by omega⟩
        rw [jl_loop5_s]; unfold bX10_only_31
        rw [if_pos (by rw [show (512 : Int32) = nI 512 from rfl, nI_leI (by omega) (by omega)]; omega), show t = 512 by omega]; rfl
      | succ m ih =>
        intro t ht f hf
        obtain ⟨f', rfl⟩ : ∃ f', f = f' + 1 := ⟨f - 1, by omega⟩
        have hr := ih (t + 1) (by omega) f' (by omega)
        rw [jl_loop5_s]
        generalize jl_loop5 (bX10_only_31 F stones has slot (nI i)) f' = L at hr ⊢
        unfold bX10_only_31 lX10_only_42
        rw [if_neg (by rw [show (512 : Int32) = nI 512 from rfl, nI_leI (by omega) (by omega)]; omega)]
        by_cases hsub : adn t (frS w) = 0
        · have hin := only_in hg hM hW hS (F := F) (by omega) hi h2 h3 (t := t) (by omega) hsub L (fun s => (frS w).testBit s && jall (fun m => !bad g w i m s) t) (pn g) 0 (by omega) F (by omega)
          have e0 : nb 9 (fun s => ((frS w).testBit s && jall (fun m => !bad g w i m s) t) && !(decide (s < 0) && bad g w i t s)) = nb 9 (fun s => (frS w).testBit s && jall (fun m => !bad g w i m s) t) := nb_cong (fun s _ => by simp)
          have e1 : nb 9 (fun s => ((frS w).testBit s && jall (fun m => !bad g w i m s) t) && !(decide (s < pn g) && bad g w i t s)) = nb 9 (fun s => (frS w).testBit s && jall (fun m => !bad g w i m s) (t + 1)) := nb_cong (fun s hs => by
            simp only [jall]
            cases hfs : (frS w).testBit s with
            | false => rfl
            | true =>
              have := (fr_lt hg hW hfs).1
              rw [decide_eq_true this, Bool.true_and, Bool.true_and, Bool.true_and])
          rw [e0, e1] at hin
          rw [show (0 : Int32) = nI 0 from rfl, hin]
          exact hr
        · have hskip : jl_loop6 (bX10_only_42 F stones has slot (nI i) L) F (nI (frS w)) (nI (nb 9 (fun s => (frS w).testBit s && jall (fun m => !bad g w i m s) t))) (nI t) 0 fo ba = L (nI (frS w)) (nI (nb 9 (fun s => (frS w).testBit s && jall (fun m => !bad g w i m s) t))) (nI (t + 1)) fo ba := by
            obtain ⟨F', rfl⟩ : ∃ F', F = F' + 1 := ⟨F - 1, by omega⟩
            have hone : nI t + Int32.ofInt 1 = nI (t + 1) := nI_add t 1
            rw [jl_loop6_s]
            generalize jl_loop6 (bX10_only_42 (F' + 1) stones has slot (nI i) L) F' = L2
            unfold bX10_only_42
            rw [if_neg (by rw [hM.1, show (0 : Int32) = nI 0 from rfl, nI_leI (by omega) (by omega)]; omega), if_neg (by rw [ni_sub0 (by omega)]; exact hsub), jl_let_eq, hone]
          have e1 : nb 9 (fun s => (frS w).testBit s && jall (fun m => !bad g w i m s) (t + 1)) = nb 9 (fun s => (frS w).testBit s && jall (fun m => !bad g w i m s) t) := nb_cong (fun s hs => by
            simp only [jall]
            have : bad g w i t s = false := by unfold bad; rw [decide_eq_false hsub]; rfl
            rw [this]; simp)
          rw [hskip]
          rw [e1] at hr
          exact hr
    have := key 512 0 rfl F (by omega)
    rw [nb_cong (g := fun s => (frS w).testBit s) (fun s _ => by simp [jall]), nb_of hfr] at this
    exact this
/-- what the class answers -/
def onlyX (g : JP) (w : JW) (i : Nat) : Nat := nb 9 (fun s => (frS w).testBit s && ((bA g w i s && !bA g w (1 - i) s) || (decide ((if i = 0 then (w.2.1.length + 1) / 2 else w.2.1.length / 2) = cX (fun s => bA g w i s && !bA g w (1 - i) s) (frS w) + cX (fun s => bA g w 0 s && bA g w 1 s) (frS w)) && (bA g w 0 s && bA g w 1 s))))
theorem sub9e : ∀ a, a < 10 → ∀ b, b < 10 → ∀ c, c < 10 → (nI a - nI b = nI c) = (a = b + c) := by decide
theorem x_only {g : JP} (hg : GOK g) {rows columns paints apart po0 po1 old shut : Int32} (hXU : XU g rows columns paints apart po0 po1 old shut) {w : JW} (hW : WOK g w) {i F : Nat} (hi : i ≤ 1) (hF : 12 ≤ F) : fX2_surelyBy F paints po0 po1 (nI (looseS g w.1)) (nI i) = some (nI (if ordN g w = 0 then 0 else onlyX g w i)) := by
  have hl9 := hW.len9 hg
  have hol : ordN g w < 2 ^ 31 := by
    have := KF_le (g := g) (w := w) (m := frS w)
    rw [KF_all hg hW] at this; omega
  unfold fX2_surelyBy
  rw [x_ordersOf hg hXU hW hF, Option.bind_some]
  by_cases h0 : ordN g w = 0
  · rw [if_pos (by rw [h0]; rfl), if_pos h0]; rfl
  · rw [if_neg (by rw [show (0 : Int32) = nI 0 from rfl, nI_eq hol (by omega)]; exact h0), if_neg h0, bitCount_ok (looseS_lt31 _ _), Option.bind_some, loose_ct hg hW]
    have hd2 : nI w.2.1.length / 2 = nI (w.2.1.length / 2) := pk_div (d := 2) (by omega) (by omega) (by omega)
    have hA : nI w.2.1.length - nI (w.2.1.length / 2) = nI ((w.2.1.length + 1) / 2) := by
      rw [pk_sub (by omega)]; congr 1; omega
    have hlt : ∀ X, lsB g w X < 2 ^ 31 := fun X => nb_lt31 (by omega) _
    have h30 : ∀ his, his < 10 → his = (if i = 0 then (w.2.1.length + 1) / 2 else w.2.1.length / 2) → fX2_surelyBy_30 F paints po0 po1 (nI (looseS g w.1)) (nI i) (nI his) = some (nI (onlyX g w i)) := by
      intro his h10 hh
      unfold fX2_surelyBy_30 fX2_surelyBy_68 onlyX
      have c1 := cX_le (fun s => bA g w i s && !bA g w (1 - i) s) (frS w)
      have c2 := cX_le (fun s => bA g w 0 s && bA g w 1 s) (frS w)
      rw [x_byOne hg hXU hW hi (by omega), Option.bind_some, x_byEither hg hXU hW (by omega), Option.bind_some, bitCount_ok (hlt _), Option.bind_some, bitCount_ok (hlt _), Option.bind_some, lsB_ct, lsB_ct, ← hh]
      have hs := sub9e his h10 (cX (fun s => bA g w i s && !bA g w (1 - i) s) (frS w)) (by omega) (cX (fun s => bA g w 0 s && bA g w 1 s) (frS w)) (by omega)
      by_cases q : his = cX (fun s => bA g w i s && !bA g w (1 - i) s) (frS w) + cX (fun s => bA g w 0 s && bA g w 1 s) (frS w)
      · rw [if_pos (by rw [hs]; exact q), if_neg (by decide), ni_or]
        unfold lsB
        rw [nb_or, decide_eq_true q]
        refine congrArg (fun z => some (nI z)) (nb_cong (fun s _ => ?_))
        cases (frS w).testBit s <;> simp
      · rw [if_neg (by rw [hs]; exact q), if_pos rfl, decide_eq_false q]
        unfold lsB
        refine congrArg (fun z => some (nI z)) (nb_cong (fun s _ => ?_))
        simp
    rw [hd2, hA]
    by_cases q : i = 0
    · rw [if_pos (by rw [q]; rfl)]
      exact h30 _ (by omega) (by rw [if_pos q])
    · rw [if_neg (by rw [show (0 : Int32) = nI 0 from rfl, nI_eq (by omega) (by omega)]; exact q)]
      exact h30 _ (by omega) (by rw [if_neg q])
