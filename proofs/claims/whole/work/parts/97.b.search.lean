/-! the class's search for both games, with its memory -/
theorem nI_self (x : Int32) : ∃ E, E < 2 ^ 32 ∧ x = nI E := by
  refine ⟨x.toBitVec.toNat, x.toBitVec.isLt, ?_⟩
  apply Int32.toBitVec_inj.mp
  show x.toBitVec = BitVec.ofNat 32 x.toBitVec.toNat
  rw [BitVec.ofNat_toNat, BitVec.setWidth_eq]
theorem cellOf_ok (x : Int32) : ∃ k, k < 4096 ∧ fX0_cellOf x = some (nI k) := by
  obtain ⟨E, hE, e⟩ := nI_self (x * (-1640531535 : Int32))
  refine ⟨E / 2 ^ 20, by omega, ?_⟩
  unfold fX0_cellOf
  rw [e, show (20 : Int32) = nI 20 from rfl, ni_ush hE (by omega)]
def keyN (m t wi : Nat) : Nat := 8 * m + 4 * t + wi
theorem or_add {a b k : Nat} (h : b < 2 ^ k) : (a * 2 ^ k) ||| b = 2 ^ k * a + b := by
  rw [Nat.two_pow_add_eq_or_of_lt h, Nat.mul_comm]
theorem key_ok {m t wi : Nat} (hm : m < 2 ^ 27) (ht : t ≤ 1) (hw : wi ≤ 2) : (((nI m <<< ((1 : Int32) &&& 31)) ||| nI t) <<< ((2 : Int32) &&& 31)) ||| nI wi = nI (keyN m t wi) := by
  have e1 : (m * 2 ^ 1) ||| t = 2 ^ 1 * m + t := or_add (by omega)
  have e2 : ((2 ^ 1 * m + t) * 2 ^ 2) ||| wi = 2 ^ 2 * (2 ^ 1 * m + t) + wi := or_add (by omega)
  rw [show (1 : Int32) = nI 1 from rfl, show (2 : Int32) = nI 2 from rfl, show (31 : Int32) = nI 31 from rfl, ni_shl _ (by omega), ni_or, e1, ni_shl _ (by omega), ni_or, e2]
  congr 1
  unfold keyN; omega
/-- what the memory answers for a game -/
theorem recall_ok {g : JP} {known : Nat → Int32} (hM : MemOK g known) {m t wi : Nat} (hm : m < 2 ^ 27) (ht : t ≤ 1) (hw : wi ≤ 2) : fX0_recall known (nI (keyN m t wi)) = some 0 ∨ fX0_recall known (nI (keyN m t wi)) = some (nI (1 + (winN g wi 9 m (ptdN m) t).toNat)) := by
  obtain ⟨k, hk, e⟩ := cellOf_ok (nI (keyN m t wi))
  obtain ⟨E, hE, e2, h⟩ := hM k hk
  have hK : keyN m t wi < 2 ^ 30 := by unfold keyN; omega
  unfold fX0_recall
  rw [e, Option.bind_some, if_neg (by rw [show (4096 : Int32) = nI 4096 from rfl, nI_leI (by omega) (by omega)]; omega), nI_clamp (by omega)]
  have gd : ¬ (nI k < 0 ∨ 4096 ≤ k) := by
    rintro (q | q)
    · exact nI_pos (by omega) q
    · omega
  rw [if_neg gd, if_neg gd, e2, show (2 : Int32) = nI 2 from rfl, ni_ush hE (by omega)]
  by_cases q : E / 2 ^ 2 = keyN m t wi
  · rw [if_pos (by rw [q])]
    have e3 : nI E &&& (3 : Int32) = nI (E % 4) := by
      rw [show (3 : Int32) = nI (2 ^ 2 - 1) from rfl, fa_mask]
    rw [e3]
    rcases h with h | ⟨m', t', wi', h1, h2, h3, h4, h5⟩
    · left; rw [h]; rfl
    · right
      unfold keyN at q
      have a1 : m' = m := by omega
      have a2 : t' = t := by omega
      have a3 : wi' = wi := by omega
      subst a1 a2 a3
      rw [h5]
  · left
    rw [if_neg (by rw [nI_eq (by omega) (by omega)]; exact q)]
theorem note_ok {g : JP} {known : Nat → Int32} (hM : MemOK g known) {m t wi : Nat} (hm : m < 2 ^ 27) (ht : t ≤ 1) (hw : wi ≤ 2) (v : Bool) (hv : winN g wi 9 m (ptdN m) t = v) : ∃ kn, fX0_note known (nI (keyN m t wi)) (nI (1 + v.toNat)) = some kn ∧ MemOK g kn := by
  obtain ⟨k, hk, e⟩ := cellOf_ok (nI (keyN m t wi))
  have hK : keyN m t wi < 2 ^ 30 := by unfold keyN; omega
  have hv2 : v.toNat ≤ 1 := by cases v <;> decide
  refine ⟨upd known k (nI (4 * keyN m t wi + (1 + v.toNat))), ?_, fun c hc => ?_⟩
  · unfold fX0_note
    have e1 : (nI (keyN m t wi) <<< ((2 : Int32) &&& 31)) ||| nI (1 + v.toNat) = nI (4 * keyN m t wi + (1 + v.toNat)) := by
      rw [show (2 : Int32) = nI 2 from rfl, show (31 : Int32) = nI 31 from rfl, ni_shl _ (by omega), ni_or]
      congr 1
      have := Nat.two_pow_add_eq_or_of_lt (b := 1 + v.toNat) (i := 2) (by omega) (keyN m t wi)
      rw [Nat.mul_comm, ← this]
    rw [e, Option.bind_some, if_neg (by rw [show (4096 : Int32) = nI 4096 from rfl, nI_leI (by omega) (by omega)]; omega), nI_clamp (by omega), if_neg (by
      rintro (q | q)
      · exact nI_pos (by omega) q
      · omega), jl_let_eq, e1]
  · by_cases q : c = k
    · refine ⟨4 * keyN m t wi + (1 + v.toNat), by omega, upd_s q, Or.inr ⟨m, t, wi, hm, ht, hw, ?_, ?_⟩⟩
      · have : (4 * keyN m t wi + (1 + v.toNat)) / 4 = keyN m t wi := by omega
        rw [this]; rfl
      · rw [hv]; omega
    · obtain ⟨E, h1, h2, h3⟩ := hM c hc
      exact ⟨E, h1, by rw [upd_n q]; exact h2, h3⟩
theorem ptd_pow : ∀ j, j < 27 → ptdN (2 ^ j) = 2 ^ (j % 9) := by decide +kernel
/-- the painting i is one to win by -/
def lose (g : JP) (wi : Nat) (c : Nat → Nat) (t i : Nat) : Bool := !(chS g c t).testBit i || RR g wi 9 (upc c (i % 9) (i / 9 + 1)) (1 - t)
def RecOK (g : JP) (wi : Nat) (c : Nat → Nat) (t dp : Nat) (pg0 pg1 : Int32) (ro : Nat → Int32) (rec : (Nat → Int32) → Int32 → Int32 → (Nat → Int32) → Int32 → Int32 → Int32 → Int32 → Int32 → Option (Int32 × (Nat → Int32))) : Prop :=
  ∀ c' kn, CG g c' → bc g c' + 1 = bc g c → MemOK g kn → ∃ kn', rec kn pg0 pg1 ro (nI wi) (nI (mS g c')) (nI (bareS g c')) (nI (1 - t)) (nI (dp + 1)) = some (nI (RR g wi 9 c' (1 - t)).toNat, kn') ∧ MemOK g kn'
theorem winning_loop {g : JP} (hg : GOK g) {all fc fit pg0 pg1 : Int32} {ro : Nat → Int32} (hX : XS g all fc fit pg0 pg1 ro) {wi : Nat} {c : Nat → Nat} (hc : CG g c) {t dp F : Nat} (ht : t ≤ 1) (hdp : dp < 9) {rec : (Nat → Int32) → Int32 → Int32 → (Nat → Int32) → Int32 → Int32 → Int32 → Int32 → Int32 → Option (Int32 × (Nat → Int32))} (hrec : RecOK g wi c t dp pg0 pg1 ro rec) :
    ∀ m j k left (known : Nat → Int32), j + m = 27 → k ≤ j → left < 2 ^ 27 → (∀ i, left.testBit i = (decide (j ≤ i) && (chS g c t).testBit i)) → (∀ i, i < j → lose g wi c t i = true) → MemOK g known → ∃ kn, (∀ f, m < f → jl_loop3 (bX0_hasWinning_13 F rec pg0 pg1 ro (nI wi) (nI (mS g c)) (nI (bareS g c)) (nI t) (nI dp)) f (nI left) (nI k) known = some (nI (!jall (lose g wi c t) 27).toNat, kn)) ∧ MemOK g kn := by
  intro m
  induction m with
  | zero =>
    intro j k left known hj hk hl hb hlose hM
    have hz : left = 0 := by
      apply Nat.eq_of_testBit_eq; intro i
      rw [hb, Nat.zero_testBit]
      cases hx : (chS g c t).testBit i with
      | false => rw [Bool.and_false]
      | true => have := (ch_of hx).1; rw [decide_eq_false (by omega)]; rfl
    have hall : jall (lose g wi c t) 27 = true := jall_iff.mpr (fun i hi => hlose i (by omega))
    refine ⟨known, fun f hf => ?_, hM⟩
    obtain ⟨f', rfl⟩ : ∃ f', f = f' + 1 := ⟨f - 1, by omega⟩
    rw [jl_loop3_s]; unfold bX0_hasWinning_13
    rw [hz, hall]
    split
    · rfl
    · rw [if_pos (show nI 0 = 0 from rfl)]; rfl
  | succ m ih =>
    intro j k left known hj hk hl hb hlose hM
    cases hbit : (chS g c t).testBit j with
    | false =>
      obtain ⟨kn, r1, r2⟩ := ih (j + 1) k left known (by omega) (by omega) hl (fun i => by
        rw [hb]
        by_cases e : i = j
        · subst e; rw [hbit, Bool.and_false, Bool.and_false]
        · have : decide (j ≤ i) = decide (j + 1 ≤ i) := decide_eq_decide.mpr (by omega)
          rw [this]) (fun i hi => by
        by_cases e : i = j
        · subst e; unfold lose; rw [hbit]; rfl
        · exact hlose i (by omega)) hM
      exact ⟨kn, fun f hf => r1 f (by omega), r2⟩
    | true =>
      obtain ⟨q1, q2, q3, q4, q5⟩ := ch_of hbit
      have hlb : left.testBit j = true := by rw [hb, hbit, decide_eq_true (Nat.le_refl j)]; rfl
      have hlow : ∀ i, i < j → left.testBit i = false := fun i hi => by rw [hb, decide_eq_false (by omega)]; rfl
      have hl0 : left ≠ 0 := by intro e; rw [e, Nat.zero_testBit] at hlb; cases hlb
      have hbu := bc_upc (g := g) (p := j / 9 + 1) q2 q4 q3
      obtain ⟨kn1, c1, c2⟩ := hrec (upc c (j % 9) (j / 9 + 1)) known (hc.pc q2 q3 q5) hbu hM
      have hm := mS_lt g c
      have hbl := bare_lt g c
      have ej : 9 * (j / 9 + 1 - 1) + j % 9 = j := by omega
      have hfa : fX3_fittingAfter ro (nI (mS g c)) (nI (2 ^ j)) = some (nI (mS g (upc c (j % 9) (j / 9 + 1)))) := by
        have := x_fitAfterM hg hX (q := canS g 0 ||| canS g 1) q2 q4 q5 q3
        rw [ej] at this; exact this
      have hp : fX3_painted (nI (2 ^ j)) = some (nI (2 ^ (j % 9))) := by
        rw [x_ptdM (pow_lt q1), ptd_pow j q1]
      have hbb : nI (bareS g c) &&& (nI (2 ^ (j % 9)) ^^^ (-1 : Int32)) = nI (bareS g (upc c (j % 9) (j / 9 + 1))) := by
        rw [ni_m1, ni_adn, bare_upc q2 q4 hg.2.2.1]
      have h1t : (1 : Int32) - nI t = nI (1 - t) := pk_sub (a := 1) ht
      have hd1 : nI dp + (1 : Int32) = nI (dp + 1) := nI_add dp 1
      have step : ∀ K : Int32 → Int32 → (Nat → Int32) → Option (Int32 × (Nat → Int32)), bX0_hasWinning_13 F rec pg0 pg1 ro (nI wi) (nI (mS g c)) (nI (bareS g c)) (nI t) (nI dp) K (nI left) (nI k) known = if RR g wi 9 (upc c (j % 9) (j / 9 + 1)) (1 - t) = false then some (1, kn1) else K (nI (adn left (2 ^ j))) (nI (k + 1)) kn1 := by
        intro K
        unfold bX0_hasWinning_13
        rw [if_neg (by rw [show (27 : Int32) = nI 27 from rfl, nI_leI (by omega) (by omega)]; omega), if_neg (by rw [show (0 : Int32) = nI 0 from rfl, nI_eq (by omega) (by omega)]; exact hl0), if_neg (by rw [show (9 : Int32) = nI 9 from rfl, nI_leI (by omega) (by omega)]; omega), jl_let_eq, low_and (by omega) hlb hlow, jl_let_eq, hp, Option.bind_some, jl_let_eq, hbb, hfa, Option.bind_some, h1t, hd1, c1, Option.bind_some, ni_m1, ni_adn, jl_let_eq, show nI k + Int32.ofInt 1 = nI (k + 1) from nI_add k 1]
        cases RR g wi 9 (upc c (j % 9) (j / 9 + 1)) (1 - t)
        · rw [if_pos rfl, if_pos (show nI false.toNat = 0 from rfl)]
        · rw [if_neg (show ¬ nI true.toNat = 0 by decide), if_neg (show ¬ true = false by decide)]
      cases hR : RR g wi 9 (upc c (j % 9) (j / 9 + 1)) (1 - t) with
      | false =>
        have hj27 : jall (lose g wi c t) 27 = false := by
          cases hx : jall (lose g wi c t) 27 with
          | false => rfl
          | true =>
            have := jall_iff.mp hx j q1
            unfold lose at this
            rw [hbit, hR] at this; cases this
        refine ⟨kn1, fun f hf => ?_, c2⟩
        obtain ⟨f', rfl⟩ : ∃ f', f = f' + 1 := ⟨f - 1, by omega⟩
        rw [jl_loop3_s, step, if_pos hR, hj27]; rfl
      | true =>
        obtain ⟨kn, r1, r2⟩ := ih (j + 1) (k + 1) (adn left (2 ^ j)) kn1 (by omega) (by omega) (adn_lt hl) (fun i => by
          rw [adn_tb (by omega), hb, Nat.testBit_two_pow]
          by_cases e : i = j
          · subst e
            rw [decide_eq_true (rfl : i = i), decide_eq_false (show ¬ i + 1 ≤ i by omega)]
            simp
          · have : decide (j ≤ i) = decide (j + 1 ≤ i) := decide_eq_decide.mpr (by omega)
            rw [this, decide_eq_false (show ¬ j = i from fun q => e q.symm)]
            simp) (fun i hi => by
          by_cases e : i = j
          · subst e; unfold lose; rw [hR, Bool.or_true]
          · exact hlose i (by omega)) c2
        refine ⟨kn, fun f hf => ?_, r2⟩
        obtain ⟨f', rfl⟩ : ∃ f', f = f' + 1 := ⟨f - 1, by omega⟩
        rw [jl_loop3_s, step, if_neg (by rw [hR]; decide)]
        exact r1 f' (by omega)
theorem x_pgs {g : JP} {all fc fit pg0 pg1 : Int32} {ro : Nat → Int32} (hX : XS g all fc fit pg0 pg1 ro) {t : Nat} (ht : t ≤ 1) : fX3_paintingsOf pg0 pg1 (nI t) = some (nI (canS g t)) := by
  rw [x_paintingsOf ht, hX.2.2.2.1, hX.2.2.2.2.1]
  rcases (show t = 0 ∨ t = 1 by omega) with rfl | rfl <;> rfl
theorem x_hasWinning {g : JP} (hg : GOK g) {all fc fit pg0 pg1 : Int32} {ro : Nat → Int32} (hX : XS g all fc fit pg0 pg1 ro) {wi : Nat} {c : Nat → Nat} (hc : CG g c) {t dp F : Nat} (ht : t ≤ 1) (hdp : dp < 9) (hF : 28 ≤ F) {rec : (Nat → Int32) → Int32 → Int32 → (Nat → Int32) → Int32 → Int32 → Int32 → Int32 → Int32 → Option (Int32 × (Nat → Int32))} (hrec : RecOK g wi c t dp pg0 pg1 ro rec) {known : Nat → Int32} (hM : MemOK g known) : ∃ kn, fX0_hasWinning F rec known pg0 pg1 ro (nI wi) (nI (mS g c)) (nI (bareS g c)) (nI t) (nI dp) = some (nI (!jall (lose g wi c t) 27).toNat, kn) ∧ MemOK g kn := by
  obtain ⟨kn, r1, r2⟩ := winning_loop hg hX hc ht hdp hrec (F := F) 27 0 0 (chS g c t) known (by omega) (by omega) (nbp_lt _) (fun i => by simp) (fun i hi => absurd hi (Nat.not_lt_zero i)) hM
  refine ⟨kn, ?_, r2⟩
  unfold fX0_hasWinning lX0_hasWinning_13
  rw [x_pgs hX ht, Option.bind_some, jl_let_eq, ni_and, mS_can hg hc ht]
  exact r1 F (by omega)
theorem wins29 {g : JP} (hg : GOK g) {all fc fit pg0 pg1 : Int32} {ro : Nat → Int32} (hX : XS g all fc fit pg0 pg1 ro) {wi : Nat} (hw : wi ≤ 2) {c : Nat → Nat} (hc : CG g c) {t dp F : Nat} (ht : t ≤ 1) (hdp : dp + bc g c ≤ 9) (hF : 28 ≤ F) {rec : (Nat → Int32) → Int32 → Int32 → (Nat → Int32) → Int32 → Int32 → Int32 → Int32 → Int32 → Option (Int32 × (Nat → Int32))} (hrec : RecOK g wi c t dp pg0 pg1 ro rec) {known : Nat → Int32} (hM : MemOK g known) (hd : wi ≠ 2 → ¬ dead g c) : ∃ kn, fX0_wins_29 F rec pg0 pg1 ro (nI wi) (nI (mS g c)) (nI (bareS g c)) (nI t) (nI dp) known = some (nI (RR g wi 9 c t).toNat, kn) ∧ MemOK g kn := by
  have hch := chS_lt31 g c t
  have hbl := bare_lt g c
  unfold fX0_wins_29
  rw [x_pgs hX ht, Option.bind_some, ni_and, mS_can hg hc ht, RR_eq hg]
  by_cases hz : chS g c t = 0
  · rw [if_pos (by rw [hz]; rfl), if_pos hz]
    refine ⟨known, ?_, hM⟩
    unfold endV
    by_cases e : wi = 2
    · subst e
      rw [if_pos (show nI 2 = 2 from rfl)]; rfl
    · rw [if_neg (by rw [show (2 : Int32) = nI 2 from rfl, nI_eq (by omega) (by omega)]; exact e), decide_eq_true (show wi ≠ 2 from e)]
      unfold fX0_wins_55 fX0_wins_66
      have e1 : (nI t = nI wi) = (t = wi) := ni_eq (by omega) (by omega)
      have e2 : (nI (bareS g c) = 0) = (bareS g c = 0) := ni_eq (a := bareS g c) (b := 0) (by omega) (by omega)
      have d10 : ¬ ((1 : Int32) = 0) := by decide
      have d01 : ¬ ((0 : Int32) = 1) := by decide
      simp only [e1, e2]
      by_cases a : bareS g c = 0
      · by_cases b : t = wi
        · rw [if_pos a, if_pos b, if_pos trivial, decide_eq_true a, decide_eq_true b]; rfl
        · rw [if_pos a, if_neg b, if_neg d10, decide_eq_true a, decide_eq_false b]; rfl
      · by_cases b : t = wi
        · rw [if_neg a, if_pos b, if_neg d01, decide_eq_false a, decide_eq_true b]; rfl
        · rw [if_neg a, if_neg b, if_pos trivial, decide_eq_false a, decide_eq_false b]; rfl
  · rw [if_neg (by rw [show (0 : Int32) = nI 0 from rfl, nI_eq (by omega) (by omega)]; exact hz), if_neg hz, jl_let_eq, key_ok (mS_lt g c) ht hw]
    have hval := mem_val hg hw hc ht hd
    rw [RR_eq hg, if_neg hz] at hval
    have hpos : 1 ≤ bc g c := by
      rcases Nat.eq_zero_or_pos (bc g c) with q | q
      · exact absurd (ch_bare hg ((bc_zero hg).mp q)) hz
      · exact q
    rcases recall_ok hM (mS_lt g c) ht hw with hr | hr
    · rw [hr, Option.bind_some, if_pos rfl]
      obtain ⟨kn, h1, h2⟩ := x_hasWinning hg hX hc ht (show dp < 9 by omega) hF hrec hM
      rw [h1, Option.bind_some]
      dsimp only
      rw [jl_let_eq]
      obtain ⟨kn2, n1, n2⟩ := note_ok h2 (mS_lt g c) ht hw _ hval
      refine ⟨kn2, ?_, n2⟩
      unfold fX0_wins_140
      have n1' : fX0_note kn (nI (keyN (mS g c) t wi)) (nI (1 + (!jall (lose g wi c t) 27).toNat)) = some kn2 := n1
      have hgoal : ∀ v : Bool, fX0_note kn (nI (keyN (mS g c) t wi)) (nI (1 + v.toNat)) = some kn2 → (if nI v.toNat = 0 then (fX0_note kn (nI (keyN (mS g c) t wi)) (1 : Int32)).bind fun r31 => (if nI v.toNat = 0 ∨ nI v.toNat = 1 then some (nI v.toNat, r31) else none) else (fX0_note kn (nI (keyN (mS g c) t wi)) (2 : Int32)).bind fun r31 => (if nI v.toNat = 0 ∨ nI v.toNat = 1 then some (nI v.toNat, r31) else none)) = some (nI v.toNat, kn2) := by
        intro v hv
        cases v with
        | false =>
          rw [if_pos (show nI false.toNat = 0 from rfl), show (1 : Int32) = nI (1 + false.toNat) from rfl, hv]; rfl
        | true =>
          rw [if_neg (show ¬ nI true.toNat = 0 by decide), show (2 : Int32) = nI (1 + true.toNat) from rfl, hv]; rfl
      exact hgoal _ n1'
    · rw [hr, hval, Option.bind_some]
      have hnz : ∀ v : Bool, (if nI (1 + v.toNat) = 0 then (fX0_hasWinning F rec known pg0 pg1 ro (nI wi) (nI (mS g c)) (nI (bareS g c)) (nI t) (nI dp)).bind fun r18 => (jl_let r18.1 fun v20 => (if v20 = 0 then (fX0_wins_140 F rec pg0 pg1 ro (nI wi) (nI (mS g c)) (nI (bareS g c)) (nI t) (nI dp) v20 (1) (nI (keyN (mS g c) t wi)) r18.2) else (fX0_wins_140 F rec pg0 pg1 ro (nI wi) (nI (mS g c)) (nI (bareS g c)) (nI t) (nI dp) v20 (2) (nI (keyN (mS g c) t wi)) r18.2))) else (if nI (1 + v.toNat) = (2 : Int32) then some ((1 : Int32), known) else some ((0 : Int32), known))) = some (nI v.toNat, known) := by
        intro v
        cases v with
        | false => rw [if_neg (show ¬ nI (1 + false.toNat) = 0 by decide), if_neg (show ¬ nI (1 + false.toNat) = 2 by decide)]; rfl
        | true => rw [if_neg (show ¬ nI (1 + true.toNat) = 0 by decide), if_pos (show nI (1 + true.toNat) = 2 by decide)]; rfl
      exact ⟨known, hnz _, hM⟩
theorem wins_step {g : JP} (hg : GOK g) {all fc fit pg0 pg1 : Int32} {ro : Nat → Int32} (hX : XS g all fc fit pg0 pg1 ro) {wi : Nat} (hw : wi ≤ 2) {c : Nat → Nat} (hc : CG g c) {t dp F : Nat} (ht : t ≤ 1) (hdp : dp + bc g c ≤ 9) (hF : 28 ≤ F) {rec : (Nat → Int32) → Int32 → Int32 → (Nat → Int32) → Int32 → Int32 → Int32 → Int32 → Int32 → Option (Int32 × (Nat → Int32))} (hrec : RecOK g wi c t dp pg0 pg1 ro rec) {known : Nat → Int32} (hM : MemOK g known) : ∃ kn, gX0_wins F rec known pg0 pg1 ro (nI wi) (nI (mS g c)) (nI (bareS g c)) (nI t) (nI dp) = some (nI (RR g wi 9 c t).toNat, kn) ∧ MemOK g kn := by
  have hbl := bare_lt g c
  unfold gX0_wins
  by_cases e : wi = 2
  · rw [if_pos (by rw [e]; rfl)]
    exact wins29 hg hX hw hc ht hdp hF hrec hM (fun h => absurd e h)
  · rw [if_neg (by rw [show (2 : Int32) = nI 2 from rfl, nI_eq (by omega) (by omega)]; exact e), x_ptdM (mS_lt g c), Option.bind_some, ni_m1, ni_adn]
    by_cases hd : dead g c
    · rw [if_neg (by rw [show (0 : Int32) = nI 0 from rfl, nI_eq (adn_lt (by omega)) (by omega)]; exact hd)]
      refine ⟨known, ?_, hM⟩
      rw [RR_dead hg (by omega) 9 c t hc ht hd]
      by_cases q : t = wi
      · rw [if_pos (by rw [q]), decide_eq_false (show ¬ t ≠ wi from fun h => h q)]; rfl
      · rw [if_neg (by rw [nI_eq (by omega) (by omega)]; exact q), decide_eq_true (show t ≠ wi from q)]; rfl
    · rw [if_pos (by
        have : adn (bareS g c) (ptdN (mS g c)) = 0 := Classical.byContradiction (fun h => hd h)
        rw [this]; rfl)]
      exact wins29 hg hX hw hc ht hdp hF hrec hM (fun _ => hd)
theorem x_wins {g : JP} (hg : GOK g) {all fc fit pg0 pg1 : Int32} {ro : Nat → Int32} (hX : XS g all fc fit pg0 pg1 ro) {wi : Nat} (hw : wi ≤ 2) {F : Nat} (hF : 28 ≤ F) :
    ∀ n c t d dp (known : Nat → Int32), bc g c = n → n < d → dp + n ≤ 9 → CG g c → t ≤ 1 → MemOK g known → ∃ kn, fX0_wins F d known pg0 pg1 ro (nI wi) (nI (mS g c)) (nI (bareS g c)) (nI t) (nI dp) = some (nI (RR g wi 9 c t).toNat, kn) ∧ MemOK g kn := by
  intro n
  induction n with
  | zero =>
    intro c t d dp known hb hd hdp hc ht hM
    obtain ⟨d', rfl⟩ : ∃ d', d = d' + 1 := ⟨d - 1, by omega⟩
    unfold fX0_wins
    rw [jl_loop9_s]
    exact wins_step hg hX hw hc ht (by omega) hF (fun c' kn _ h => by omega) hM
  | succ n ih =>
    intro c t d dp known hb hd hdp hc ht hM
    obtain ⟨d', rfl⟩ : ∃ d', d = d' + 1 := ⟨d - 1, by omega⟩
    unfold fX0_wins
    rw [jl_loop9_s]
    exact wins_step hg hX hw hc ht (by omega) hF (fun c' kn h1 h2 h3 => ih c' (1 - t) d' (dp + 1) kn (by omega) (by omega) (by omega) h1 (by omega) h3) hM
