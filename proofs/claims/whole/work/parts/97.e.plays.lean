/-! the reference's table of the games -/
theorem WS_SW {s0 : Nat → Int32} {w : JW} (h : SW s0 11 w) (hl : w.2.1.length ≤ 9) (c : Nat → Nat) (x : Nat) : SW (WS (upd s0 239 (nI x)) c) 11 (c, w.2.1, x) := by
  obtain ⟨h1, h2, h3, h4⟩ := h
  refine ⟨WS_SC _ c, fun i hi => ?_, ?_, ?_⟩
  · have hi : i < w.2.1.length := hi
    rw [WS_kept (by omega), upd_n (by omega)]; exact h2 i hi
  · rw [WS_kept (by omega), upd_n (by omega)]; exact h3
  · rw [WS_kept (by omega), upd_s (by omega)]
theorem step_ok {nf k : Nat} (h9 : nf ≤ 9) (hk : k < nf) : fX10_step (nI nf) (nI k) = some (nI (4 ^ (nf - 1 - k))) := by
  unfold fX10_step
  rw [show (1 : Int32) = nI 1 from rfl, show (2 : Int32) = nI 2 from rfl, show (31 : Int32) = nI 31 from rfl, pk_sub (by omega), pk_sub (by omega), pk_mul, ni_shl _ (by omega), Nat.one_mul, Nat.pow_mul]
def noM (g : JP) (c : Nat → Nat) (x s : Nat) : Nat → Bool := jall (fun q => !mayA g c x s (q + 1))
def noG (g : JP) (wi : Nat) (c : Nat → Nat) (x s : Nat) : Nat → Bool := jall (fun q => !good g wi c x s (q + 1))
theorem noM_bare {g : JP} {c : Nat → Nat} {x s : Nat} (h : c s ≠ 0) (m : Nat) : noM g c x s m = true := jall_iff.mpr (fun q _ => by
  unfold mayA; rw [decide_eq_false h]; rfl)
theorem good_may {g : JP} (hg : GOK g) {wi : Nat} {c : Nat → Nat} {x s p : Nat} (hs : s < pn g) (h1 : 1 ≤ p) (h3 : p ≤ 3) : good g wi c x s p = (mayA g c x s p && !RR g wi 9 (upc c s p) (1 - x)) := by
  have hn := hg.2.2.1
  unfold good
  rw [ch_tb, show (9 * (p - 1) + s) % 9 = s by omega, show (9 * (p - 1) + s) / 9 + 1 = p by omega, decide_eq_true hs, decide_eq_true (show 9 * (p - 1) + s < 27 by omega)]
  rfl
theorem noG_bare {g : JP} (hg : GOK g) {wi : Nat} {c : Nat → Nat} {x s : Nat} (hs : s < pn g) (h : c s ≠ 0) {m : Nat} (hm : m ≤ 3) : noG g wi c x s m = true := jall_iff.mpr (fun q hq => by
  rw [good_may hg hs (by omega) (by omega)]
  unfold mayA; rw [decide_eq_false h]; rfl)
/-- the paints of one stone -/
theorem plays_in {g : JP} (hg : GOK g) {stones : Int32} {told touches has old beside : Nat → Int32} (hM : MR g stones told touches has old beside) {w : JW} (hc : CG g w.1) (hl : w.2.1.length ≤ 9) {wi : Nat} {s0 : Nat → Int32} (hS : SW s0 11 w) {code t F k : Nat} (hF : 10 ≤ F) (ht : t ≤ 1) (hcode : code < 4 ^ bc g w.1) (hk : k < bc g w.1) (hz : colC g w.1 code (fs g w.1 k) = 0)
    {free worth : Nat → Int32} (hfr : ∀ i, i < bc g w.1 → free i = nI (fs g w.1 i)) (hwo : ∀ j, code < j → j < 4 ^ bc g w.1 → worth j = nI (RR g wi 9 (colC g w.1 j) (mvC g w.1 j t)).toNat) (p1 x104 : Int32)
    (K22 : Int32 → Int32 → (Nat → Int32) → (Nat → Int32) → (Nat → Int32) → Option (Int32 × (Nat → Int32) × (Nat → Int32) × (Nat → Int32))) (K59 : Int32 → Int32 → Int32 → Int32 → Int32 → Int32 → Int32 → (Nat → Int32) → (Nat → Int32) → (Nat → Int32) → Option (Int32 × (Nat → Int32) × (Nat → Int32) × (Nat → Int32))) :
    ∀ m q (A B : Bool), q + m = pP g → ∀ f, m < f → jl_loop12 (bX10_plays_114 F stones told touches has beside p1 K22 K59) f (nI code) (nI (mvC g w.1 code t)) (nI (A && noM g (colC g w.1 code) (mvC g w.1 code t) (fs g w.1 k) q).toNat) (nI (B || !noG g wi (colC g w.1 code) (mvC g w.1 code t) (fs g w.1 k) q).toNat) x104 (nI k) 1 (nI (q + 1)) (nI (bc g w.1)) (WS (upd s0 239 (nI (mvC g w.1 code t))) (colC g w.1 code)) free worth
      = K59 (nI code) (nI (mvC g w.1 code t)) (nI (A && noM g (colC g w.1 code) (mvC g w.1 code t) (fs g w.1 k) (pP g)).toNat) (nI (B || !noG g wi (colC g w.1 code) (mvC g w.1 code t) (fs g w.1 k) (pP g)).toNat) x104 (nI (k + 1)) (nI (bc g w.1)) (WS (upd s0 239 (nI (mvC g w.1 code t))) (colC g w.1 code)) free worth := by
  have hb9 := bc_le hg w.1
  have hn9 := hg.2.2.1
  have hP := hg.2.2.2.2.1
  obtain ⟨a, b, c⟩ := fs_ok hk
  have hx := mvC_le g w.1 code t
  have hCG := colC_CG hc code
  have h49 : 4 ^ bc g w.1 ≤ 4 ^ 9 := Nat.pow_le_pow_right (by omega) hb9
  have e49 : (4 : Nat) ^ 9 = 262144 := by decide
  have hSW := WS_SW hS hl (colC g w.1 code) (mvC g w.1 code t)
  generalize hcc : colC g w.1 code = cc at *
  generalize hxx : mvC g w.1 code t = xx at *
  generalize hss : fs g w.1 k = ss at *
  intro m
  induction m with
  | zero =>
    intro q A B hq f hf
    have : q = pP g := by omega
    subst this
    obtain ⟨f', rfl⟩ : ∃ f', f = f' + 1 := ⟨f - 1, by omega⟩
    rw [jl_loop12_s]; unfold bX10_plays_114
    rw [c2, hM.2.1.2.2, if_pos (by rw [nI_ltI (by omega) (by omega)]; omega), jl_let_eq, show nI k + Int32.ofInt 1 = nI (k + 1) from nI_add k 1]
  | succ m ih =>
    intro q A B hq f hf
    obtain ⟨f', rfl⟩ : ∃ f', f = f' + 1 := ⟨f - 1, by omega⟩
    have hr := ih (q + 1) A B (by omega) f' (by omega)
    have hmay : fX10_isMay F stones touches has beside (WS (upd s0 239 (nI xx)) cc) (11 : Int32) (nI ss) (nI (q + 1)) = some (nI (mayA g cc xx ss (q + 1)).toNat) := isMay_ok hg hM (w := (cc, w.2.1, xx)) hCG.1 (k := 11) (by omega) hSW a hx (by omega) (by omega) hF
    have hst := step_ok hb9 hk
    have hgd := good_may (wi := wi) (c := cc) (x := xx) hg a (show 1 ≤ q + 1 by omega) (show q + 1 ≤ 3 by omega)
    have hcs := col_step (p := q + 1) hk (by rw [hcc, hss]; exact hz) (by omega)
    have hms := mv_step (p := q + 1) (t := t) hk (by rw [hcc, hss]; exact hz) (by omega) (by omega)
    rw [hcc, hss] at hcs
    rw [hxx] at hms
    have hp4 : 0 < 4 ^ (bc g w.1 - 1 - k) := Nat.pow_pos (by omega)
    have hdg : dg code (bc g w.1 - 1 - k) = 0 := by
      have hz' := hz
      rw [← hcc, ← hss] at hz'
      unfold colC at hz'
      rw [if_pos ⟨by rw [hss]; exact a, by rw [hss]; exact b⟩, hss, c] at hz'; exact hz'
    have hlt := dg_lt (p := q + 1) hdg (by omega) (show bc g w.1 - 1 - k < bc g w.1 by omega) hcode
    have hgt : code < code + (q + 1) * 4 ^ (bc g w.1 - 1 - k) := by
      have : 0 < (q + 1) * 4 ^ (bc g w.1 - 1 - k) := Nat.mul_pos (by omega) hp4
      omega
    have hw := hwo _ hgt hlt
    rw [hcs, hms] at hw
    have hone : nI (q + 1) + Int32.ofInt 1 = nI (q + 1 + 1) := nI_add (q + 1) 1
    have e1 : noM g cc xx ss (q + 1) = (noM g cc xx ss q && !mayA g cc xx ss (q + 1)) := rfl
    have e2 : noG g wi cc xx ss (q + 1) = (noG g wi cc xx ss q && !good g wi cc xx ss (q + 1)) := rfl
    rw [jl_loop12_s]
    generalize jl_loop12 (bX10_plays_114 F stones told touches has beside p1 K22 K59) f' = K at hr ⊢
    have h198 : ∀ u v, fX10_plays_198 F stones told touches has beside p1 K22 K59 K (nI code) (nI xx) u x104 (nI k) 1 (nI (q + 1)) v (nI (bc g w.1)) (WS (upd s0 239 (nI xx)) cc) free worth = K (nI code) (nI xx) u v x104 (nI k) 1 (nI (q + 1 + 1)) (nI (bc g w.1)) (WS (upd s0 239 (nI xx)) cc) free worth := by
      intro u v
      unfold fX10_plays_198
      rw [jl_let_eq, hone]
    have h162 : ∀ (u : Int32) (Y : Bool), fX10_plays_162 F stones told touches has beside p1 K22 K59 K (nI code) (nI xx) (nI Y.toNat) x104 (nI k) 1 (nI (q + 1)) (nI (mayA g cc xx ss (q + 1)).toNat) u (nI (bc g w.1)) (WS (upd s0 239 (nI xx)) cc) free worth = K (nI code) (nI xx) u (nI (Y || good g wi cc xx ss (q + 1)).toNat) x104 (nI k) 1 (nI (q + 1 + 1)) (nI (bc g w.1)) (WS (upd s0 239 (nI xx)) cc) free worth := by
      intro u Y
      unfold fX10_plays_162 fX10_plays_193 fX10_plays_197
      rw [h198, h198, hst, Option.bind_some, pk_mul, nI_add, nI_clamp (by omega), hw, hgd]
      cases Y with
      | true => rw [if_neg (show ¬ nI true.toNat = 0 by decide)]; rfl
      | false =>
        rw [if_pos (show nI false.toNat = 0 from rfl)]
        cases mayA g cc xx ss (q + 1) with
        | false => rw [if_pos (show nI false.toNat = 0 from rfl)]; rfl
        | true =>
          rw [if_neg (show ¬ nI true.toNat = 0 by decide), if_neg (by
            rintro (z | z)
            · exact nI_pos (by omega) z
            · omega)]
          cases RR g wi 9 (upc cc ss (q + 1)) (1 - xx) with
          | false => rw [if_pos (show nI false.toNat = 0 from rfl)]; rfl
          | true => rw [if_neg (show ¬ nI true.toNat = 0 by decide)]; rfl
    unfold bX10_plays_114 fX10_plays_161
    rw [c2, hM.2.1.2.2, if_neg (by rw [nI_ltI (by omega) (by omega)]; omega), if_neg (show ¬ (1 : Int32) = 0 by decide), nI_clamp (by omega), if_neg (by
      rintro (z | z)
      · exact nI_pos (by omega) z
      · omega), hfr k hk, hss, hmay, Option.bind_some, show (0 : Int32) = nI 0 from rfl, show (1 : Int32) = nI 1 from rfl]
    have eB : (B || !(noG g wi cc xx ss q && !good g wi cc xx ss (q + 1))) = ((B || !noG g wi cc xx ss q) || good g wi cc xx ss (q + 1)) := by
      generalize noG g wi cc xx ss q = u1
      generalize good g wi cc xx ss (q + 1) = u2
      cases B <;> cases u1 <;> cases u2 <;> rfl
    rw [e1, e2, ← Bool.and_assoc, eB] at hr
    rw [show (1 : Int32) = nI 1 from rfl] at hr h162
    rw [h162, h162]
    generalize (A && noM g cc xx ss q) = Z at hr ⊢
    cases Z with
    | false =>
      rw [if_pos (show nI false.toNat = nI 0 from rfl)]
      exact hr
    | true =>
      rw [if_neg (show ¬ nI true.toNat = nI 0 by decide)]
      cases hmm : mayA g cc xx ss (q + 1) with
      | false =>
        rw [if_pos (show nI false.toNat = nI 0 from rfl)]
        rw [hmm] at hr
        exact hr
      | true =>
        rw [if_neg (show ¬ nI true.toNat = nI 0 by decide)]
        rw [hmm] at hr
        exact hr
