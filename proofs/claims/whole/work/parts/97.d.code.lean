/-! walls told by a number, four for each bare stone: the reference's table -/
theorem zl_ix {c : Nat → Nat} : ∀ m s k, k < (zl c m s).length → s ≤ (zl c m s).getD k 0 ∧ (zl c m s).getD k 0 < s + m ∧ c ((zl c m s).getD k 0) = 0 ∧ fb_ct (fun t => decide (c t = 0)) ((zl c m s).getD k 0) = fb_ct (fun t => decide (c t = 0)) s + k := by
  intro m
  induction m with
  | zero => intro s k h; exact absurd h (Nat.not_lt_zero k)
  | succ m ih =>
    intro s k h
    have hs := fb_ct_succ (fun t => decide (c t = 0)) s
    simp only [zl] at h ⊢
    by_cases e : c s = 0
    · rw [if_pos e] at h ⊢
      rw [decide_eq_true e, if_pos rfl] at hs
      cases k with
      | zero => exact ⟨Nat.le_refl s, by show s < _; omega, e, rfl⟩
      | succ k =>
        rw [List.length_cons] at h
        obtain ⟨a1, a2, a3, a4⟩ := ih (s + 1) k (by omega)
        rw [List.getD_cons_succ]
        exact ⟨by omega, by omega, a3, by rw [a4, hs]; omega⟩
    · rw [if_neg e] at h ⊢
      rw [decide_eq_false e, if_neg (by decide)] at hs
      obtain ⟨a1, a2, a3, a4⟩ := ih (s + 1) k h
      exact ⟨by omega, by omega, a3, by rw [a4, hs]; omega⟩
theorem zl_ln {c : Nat → Nat} : ∀ m s, fb_ct (fun t => decide (c t = 0)) s + (zl c m s).length = fb_ct (fun t => decide (c t = 0)) (s + m) := by
  intro m
  induction m with
  | zero => intro s; rfl
  | succ m ih =>
    intro s
    have hs := fb_ct_succ (fun t => decide (c t = 0)) s
    have h := ih (s + 1)
    simp only [zl]
    rw [show s + (m + 1) = s + 1 + m by omega, ← h, hs]
    by_cases e : c s = 0
    · rw [if_pos e, decide_eq_true e, if_pos rfl, List.length_cons]; omega
    · rw [if_neg e, decide_eq_false e, if_neg (by decide)]; omega
def ix (w : Nat → Nat) (s : Nat) : Nat := fb_ct (fun t => decide (w t = 0)) s
theorem zl_bc (g : JP) (w : Nat → Nat) : (zl w (pn g) 0).length = bc g w := by
  have := zl_ln (c := w) (pn g) 0
  rw [Nat.zero_add, show fb_ct (fun t => decide (w t = 0)) 0 = 0 from rfl, Nat.zero_add] at this
  exact this
/-- the k-th bare stone -/
def fs (g : JP) (w : Nat → Nat) (k : Nat) : Nat := (zl w (pn g) 0).getD k 0
theorem fs_ok {g : JP} {w : Nat → Nat} {k : Nat} (h : k < bc g w) : fs g w k < pn g ∧ w (fs g w k) = 0 ∧ ix w (fs g w k) = k := by
  obtain ⟨a1, a2, a3, a4⟩ := zl_ix (c := w) (pn g) 0 k (by rw [zl_bc]; exact h)
  rw [show fb_ct (fun t => decide (w t = 0)) 0 = 0 from rfl, Nat.zero_add] at a4
  rw [Nat.zero_add] at a2
  exact ⟨a2, a3, a4⟩
theorem ix_lt {g : JP} {w : Nat → Nat} {s : Nat} (hs : s < pn g) (hz : w s = 0) : ix w s < bc g w := by
  have h := fb_ct_succ (fun t => decide (w t = 0)) s
  rw [decide_eq_true hz, if_pos rfl] at h
  have h2 := fb_ct_mono (fun t => decide (w t = 0)) (show s + 1 ≤ pn g by omega)
  unfold ix bc; omega
theorem ix_inj {w : Nat → Nat} {s t : Nat} (hs : w s = 0) (ht : w t = 0) (h : ix w s = ix w t) : s = t := fb_ct_kth_one (p := fun t => decide (w t = 0)) (decide_eq_true hs) (decide_eq_true ht) h
theorem ix_mono {w : Nat → Nat} {s t : Nat} (hs : w s = 0) (h : s < t) : ix w s < ix w t := by
  have h1 := fb_ct_succ (fun t => decide (w t = 0)) s
  rw [decide_eq_true hs, if_pos rfl] at h1
  have h2 := fb_ct_mono (fun t => decide (w t = 0)) (show s + 1 ≤ t by omega)
  unfold ix; omega
theorem fs_ix {g : JP} {w : Nat → Nat} {s : Nat} (hs : s < pn g) (hz : w s = 0) : fs g w (ix w s) = s := by
  obtain ⟨a, b, c⟩ := fs_ok (ix_lt hs hz)
  exact ix_inj b hz c
def dg (code j : Nat) : Nat := code / 4 ^ j % 4
def colJ (g : JP) (w c0 : Nat → Nat) (code j : Nat) : Nat → Nat := fun s => if s < pn g ∧ w s = 0 ∧ bc g w - 1 - ix w s < j then dg code (bc g w - 1 - ix w s) else c0 s
def colC (g : JP) (w : Nat → Nat) (code : Nat) : Nat → Nat := fun s => if s < pn g ∧ w s = 0 then dg code (bc g w - 1 - ix w s) else w s
def dnz (code i : Nat) : Bool := decide (dg code i ≠ 0)
def mvC (g : JP) (w : Nat → Nat) (code t : Nat) : Nat := (t + fb_ct (dnz code) (bc g w)) % 2
theorem colJ_step {g : JP} {w c0 : Nat → Nat} {code j : Nat} (hj : j < bc g w) : upc (colJ g w c0 code j) (fs g w (bc g w - 1 - j)) (dg code j) = colJ g w c0 code (j + 1) := by
  obtain ⟨a, b, c⟩ := fs_ok (g := g) (w := w) (k := bc g w - 1 - j) (by omega)
  funext t
  unfold upc colJ
  by_cases e : t = fs g w (bc g w - 1 - j)
  · rw [if_pos e, e, c, if_pos ⟨a, b, by omega⟩, show bc g w - 1 - (bc g w - 1 - j) = j by omega]
  · rw [if_neg e]
    by_cases h : t < pn g ∧ w t = 0
    · have h1 := ix_lt h.1 h.2
      have h2 : ix w t ≠ bc g w - 1 - j := fun q => e (ix_inj h.2 b (by rw [q, c]))
      by_cases h3 : bc g w - 1 - ix w t < j
      · rw [if_pos ⟨h.1, h.2, h3⟩, if_pos ⟨h.1, h.2, by omega⟩]
      · rw [if_neg (fun q => h3 q.2.2), if_neg (fun q => by have := q.2.2; omega)]
    · rw [if_neg (fun q => h ⟨q.1, q.2.1⟩), if_neg (fun q => h ⟨q.1, q.2.1⟩)]
theorem colJ_0 {g : JP} {w c0 : Nat → Nat} {code : Nat} : colJ g w c0 code 0 = c0 := by
  funext t
  unfold colJ
  rw [if_neg (fun q => Nat.not_lt_zero _ q.2.2)]
theorem colJ_end {g : JP} {w c0 : Nat → Nat} {code : Nat} (h0 : ∀ s, ¬ (s < pn g ∧ w s = 0) → c0 s = w s) : colJ g w c0 code (bc g w) = colC g w code := by
  funext t
  unfold colJ colC
  by_cases h : t < pn g ∧ w t = 0
  · have h1 := ix_lt h.1 h.2
    rw [if_pos ⟨h.1, h.2, by omega⟩, if_pos h]
  · rw [if_neg (fun q => h ⟨q.1, q.2.1⟩), if_neg h]
    exact h0 t h
theorem colC_out {g : JP} {w : Nat → Nat} {code : Nat} : ∀ s, ¬ (s < pn g ∧ w s = 0) → colC g w code s = w s := fun s h => by
  unfold colC; rw [if_neg h]
theorem WS_239 {s0 : Nat → Int32} {c : Nat → Nat} (v : Int32) : upd (WS s0 c) 239 v = WS (upd s0 239 v) c := by
  funext i
  unfold WS
  by_cases h : 220 ≤ i ∧ i < 229
  · rw [if_pos h, upd_n (by omega)]
    show (if 220 ≤ i ∧ i < 229 then _ else _) = _
    rw [if_pos h]
  · rw [if_neg h]
    by_cases e : i = 239
    · rw [upd_s e, upd_s e]
    · rw [upd_n e, upd_n e]
      show (if 220 ≤ i ∧ i < 229 then _ else _) = _
      rw [if_neg h]
theorem fills_ok {g : JP} (hg : GOK g) {w : Nat → Nat} {free : Nat → Int32} (hfr : ∀ i, i < bc g w → free i = nI (fs g w i)) (s0 : Nat → Int32) {c0 : Nat → Nat} (h0 : ∀ s, ¬ (s < pn g ∧ w s = 0) → c0 s = w s) {code t F : Nat} (hcode : code < 4 ^ 9) (ht : t ≤ 1) (hF : 11 ≤ F) : fX10_fills F (nI (bc g w)) (WS s0 c0) free (nI code) (nI t) = some (WS (upd s0 239 (nI (mvC g w code t))) (colC g w code)) := by
  have hb9 := bc_le hg w
  have hn9 := hg.2.2.1
  have e49 : (4 : Nat) ^ 9 = 262144 := by decide
  have key : ∀ r j, r + j = bc g w → ∀ f, r < f → jl_loop4 (bX10_fills_13 F (nI (bc g w)) free (nI code) (nI t)) f (nI (code / 4 ^ j)) (nI (fb_ct (dnz code) j)) (nI r - nI 1) (WS s0 (colJ g w c0 code j)) = some (WS (upd s0 239 (nI (mvC g w code t))) (colC g w code)) := by
    intro r
    induction r with
    | zero =>
      intro j hj f hf
      have hj : j = bc g w := by omega
      obtain ⟨f', rfl⟩ : ∃ f', f = f' + 1 := ⟨f - 1, by omega⟩
      have hct := fb_ct_le (dnz code) (bc g w)
      have hm : nI t + nI (fb_ct (dnz code) (bc g w)) - (nI t + nI (fb_ct (dnz code) (bc g w))) / 2 * 2 = nI (mvC g w code t) := by
        rw [nI_add]
        exact pk_rem (d := 2) (by omega) (by omega) (by omega)
      rw [jl_loop4_s, hj]; unfold bX10_fills_13
      rw [if_pos (by decide), jl_let_eq, hm, colJ_end h0, show ((239 : Int32)).toNatClampNeg = 239 from by decide, WS_239]
    | succ r ih =>
      intro j hj f hf
      obtain ⟨f', rfl⟩ : ∃ f', f = f' + 1 := ⟨f - 1, by omega⟩
      have hr := ih (j + 1) (by omega) f' (by omega)
      obtain ⟨a, b, c⟩ := fs_ok (g := g) (w := w) (k := r) (by omega)
      have hsub : nI (r + 1) - nI 1 = nI r := pk_sub (by omega)
      have hd : code / 4 ^ j ≤ code := Nat.div_le_self _ _
      have hdiv : nI (code / 4 ^ j) / 4 = nI (code / 4 ^ (j + 1)) := by
        rw [Nat.pow_succ, ← Nat.div_div_eq_div_mul]
        exact pk_div (d := 4) (by omega) (by omega) (by omega)
      have hrem : nI (code / 4 ^ j) - nI (code / 4 ^ (j + 1)) * 4 = nI (dg code j) := by
        rw [← hdiv]
        exact pk_rem (d := 4) (by omega) (by omega) (by omega)
      have hdl : dg code j < 4 := Nat.mod_lt _ (by omega)
      have hm1 : nI r + Int32.ofInt (-1) = nI r - nI 1 := by
        rw [ni_ofm1, Int32.sub_eq_add_neg]
      have hcs := colJ_step (g := g) (w := w) (c0 := c0) (code := code) (j := j) (by omega)
      rw [show bc g w - 1 - j = r by omega] at hcs
      rw [jl_loop4_s]
      generalize jl_loop4 (bX10_fills_13 F (nI (bc g w)) free (nI code) (nI t)) f' = K at hr ⊢
      unfold bX10_fills_13
      have h50 : ∀ (v : Nat), fX10_fills_50 F (nI (bc g w)) free (nI code) (nI t) K (nI (code / 4 ^ j)) (nI r) (nI v) (nI (fb_ct (dnz code) j)) (WS s0 (colJ g w c0 code (j + 1))) = K (nI (code / 4 ^ (j + 1))) (nI (fb_ct (dnz code) j + v)) (nI r - nI 1) (WS s0 (colJ g w c0 code (j + 1))) := by
        intro v
        unfold fX10_fills_50
        rw [jl_let_eq, jl_let_eq, jl_let_eq, nI_add, hdiv, hm1]
      rw [hsub, if_neg (nI_pos (by omega)), nI_clamp (by omega), if_neg (by
        rintro (q | q)
        · exact nI_pos (by omega) q
        · omega), hfr r (by omega), show (220 : Int32) = nI 220 from rfl, nI_add, nI_clamp (by omega), if_neg (by
        rintro (q | q)
        · exact nI_pos (by omega) q
        · omega), jl_let_eq, hdiv, hrem, WS_upd (by omega), hcs, show (0 : Int32) = nI 0 from rfl, show (1 : Int32) = nI 1 from rfl, h50, h50]
      rw [fb_ct_succ] at hr
      unfold dnz at hr ⊢
      by_cases e : dg code j = 0
      · rw [if_pos (by rw [nI_leI (by omega) (by omega)]; omega)]
        rw [decide_eq_false (show ¬ dg code j ≠ 0 from fun q => q e), if_neg (by decide)] at hr
        exact hr
      · rw [if_neg (by rw [nI_leI (by omega) (by omega)]; omega)]
        rw [decide_eq_true (show dg code j ≠ 0 from e), if_pos rfl] at hr
        exact hr
  have h := key (bc g w) 0 (by omega) F (by omega)
  unfold fX10_fills lX10_fills_13
  rw [jl_let_eq]
  rw [colJ_0, Nat.pow_zero, Nat.div_one, show fb_ct (dnz code) 0 = 0 from rfl] at h
  exact h
/-- a painting more, in numbers -/
theorem dg_same {code j p : Nat} (h : dg code j = 0) (hp : p ≤ 3) : dg (code + p * 4 ^ j) j = p := by
  have hp4 : 0 < 4 ^ j := Nat.pow_pos (by omega)
  unfold dg at h ⊢
  rw [Nat.add_mul_div_right _ _ hp4]; omega
theorem dg_other {code j p i : Nat} (h : dg code j = 0) (hp : p ≤ 3) (hi : i ≠ j) : dg (code + p * 4 ^ j) i = dg code i := by
  have hp4 : 0 < 4 ^ j := Nat.pow_pos (by omega)
  unfold dg at h ⊢
  rcases Nat.lt_or_ge i j with q | q
  · obtain ⟨d, rfl⟩ : ∃ d, j = i + (d + 1) := ⟨j - i - 1, by omega⟩
    have e : p * 4 ^ (i + (d + 1)) = (4 * (p * 4 ^ d)) * 4 ^ i := by
      rw [Nat.pow_add, Nat.pow_succ]
      simp only [Nat.mul_comm, Nat.mul_left_comm]
    rw [e, Nat.add_mul_div_right _ _ (Nat.pow_pos (by omega))]
    omega
  · obtain ⟨d, rfl⟩ : ∃ d, i = j + (d + 1) := ⟨i - j - 1, by omega⟩
    have e : 4 ^ (j + (d + 1)) = 4 ^ j * 4 * 4 ^ d := by
      rw [Nat.pow_add, Nat.pow_succ, Nat.mul_comm (4 ^ d), ← Nat.mul_assoc]
    rw [e, ← Nat.div_div_eq_div_mul, ← Nat.div_div_eq_div_mul, ← Nat.div_div_eq_div_mul, ← Nat.div_div_eq_div_mul, Nat.add_mul_div_right _ _ hp4]
    have : (code / 4 ^ j + p) / 4 = code / 4 ^ j / 4 := by omega
    rw [this]
theorem dg_lt {code j p n : Nat} (h : dg code j = 0) (hp : p ≤ 3) (hj : j < n) (hc : code < 4 ^ n) : code + p * 4 ^ j < 4 ^ n := by
  have hp4 : 0 < 4 ^ j := Nat.pow_pos (by omega)
  unfold dg at h
  obtain ⟨d, rfl⟩ : ∃ d, n = j + (d + 1) := ⟨n - j - 1, by omega⟩
  have e : 4 ^ (j + (d + 1)) = 4 ^ d * 4 * 4 ^ j := by
    rw [Nat.pow_add, Nat.pow_succ]
    simp only [Nat.mul_comm]
  rw [e] at hc ⊢
  rw [← Nat.div_lt_iff_lt_mul hp4] at hc ⊢
  rw [Nat.add_mul_div_right _ _ hp4]
  omega
theorem col_step {g : JP} {w : Nat → Nat} {code k p : Nat} (hk : k < bc g w) (h : colC g w code (fs g w k) = 0) (hp : p ≤ 3) : colC g w (code + p * 4 ^ (bc g w - 1 - k)) = upc (colC g w code) (fs g w k) p := by
  obtain ⟨a, b, c⟩ := fs_ok hk
  have hd : dg code (bc g w - 1 - k) = 0 := by
    unfold colC at h
    rw [if_pos ⟨a, b⟩, c] at h; exact h
  funext t
  unfold upc colC
  by_cases e : t = fs g w k
  · rw [if_pos e, e, if_pos ⟨a, b⟩, c, dg_same hd hp]
  · rw [if_neg e]
    by_cases q : t < pn g ∧ w t = 0
    · have h1 := ix_lt q.1 q.2
      have h2 : ix w t ≠ k := fun z => e (ix_inj q.2 b (by rw [z, c]))
      rw [if_pos q, if_pos q, dg_other hd hp (by omega)]
    · rw [if_neg q, if_neg q]
theorem mv_step {g : JP} {w : Nat → Nat} {code k p t : Nat} (hk : k < bc g w) (h : colC g w code (fs g w k) = 0) (h1 : 1 ≤ p) (hp : p ≤ 3) : mvC g w (code + p * 4 ^ (bc g w - 1 - k)) t = 1 - mvC g w code t := by
  obtain ⟨a, b, c⟩ := fs_ok hk
  have hd : dg code (bc g w - 1 - k) = 0 := by
    unfold colC at h
    rw [if_pos ⟨a, b⟩, c] at h; exact h
  have hu := fb_ct_upd (dnz code) true (i := bc g w - 1 - k) (n := bc g w) (by omega)
  have e : fb_ct (dnz (code + p * 4 ^ (bc g w - 1 - k))) (bc g w) = fb_ct (fun i => if i = bc g w - 1 - k then true else dnz code i) (bc g w) := fb_ct_cong (fun i _ => by
    unfold dnz
    by_cases q : i = bc g w - 1 - k
    · rw [if_pos q, q, dg_same hd hp]; exact decide_eq_true (by omega)
    · rw [if_neg q, dg_other hd hp q])
  have e0 : dnz code (bc g w - 1 - k) = false := by unfold dnz; exact decide_eq_false (fun q => q hd)
  rw [e0, if_neg (by decide), if_pos rfl] at hu
  unfold mvC
  rw [e]; omega
theorem colC_0 (g : JP) (w : Nat → Nat) : colC g w 0 = w := by
  funext t
  unfold colC
  split
  · next h => unfold dg; rw [Nat.zero_div]; exact h.2.symm
  · rfl
theorem mvC_0 (g : JP) (w : Nat → Nat) {t : Nat} (ht : t ≤ 1) : mvC g w 0 t = t := by
  have : fb_ct (dnz 0) (bc g w) = 0 := fb_ct_zero.mpr (fun k _ => by
    unfold dnz dg; rw [Nat.zero_div]; rfl)
  unfold mvC
  rw [this]; omega
theorem mvC_le (g : JP) (w : Nat → Nat) (code t : Nat) : mvC g w code t ≤ 1 := by unfold mvC; omega
theorem colC_CG {g : JP} {w : Nat → Nat} (hw : CG g w) (code : Nat) : CG g (colC g w code) := by
  obtain ⟨h1, h2, h9⟩ := hw
  refine ⟨fun s => ?_, fun s hs => ?_, fun s => ?_⟩
  · unfold colC
    split
    · left; unfold dg; omega
    · exact h1 s
  · rw [colC_out s (fun q => by omega)]; exact h2 s hs
  · have := h9 s
    unfold colC
    split
    · next h =>
      have : dg code (bc g w - 1 - ix w s) < 4 := Nat.mod_lt _ (by omega)
      omega
    · exact this
