/-! letters and numbers of a text -/
def ck (yt : Nat → Int32) (i : Nat) : Nat := (yt i &&& 255).toBitVec.toNat
theorem ck_lt (yt : Nat → Int32) (i : Nat) : ck yt i < 256 := by
  unfold ck
  obtain ⟨n, hn, e⟩ := wb_of32 (yt i)
  rw [e, show (255 : Int32) = nI (2 ^ 8 - 1) from rfl, fa_mask]
  show (BitVec.ofNat 32 (n % 2 ^ 8)).toNat < 256
  rw [BitVec.toNat_ofNat]
  have := Nat.mod_lt n (show 2 ^ 8 > 0 by decide)
  have h2 := Nat.mod_le (n % 2 ^ 8) (2 ^ 32)
  omega
theorem ck_and (yt : Nat → Int32) (i : Nat) : yt i &&& 255 = nI (ck yt i) := by
  apply Int32.toBitVec_inj.mp
  show _ = BitVec.ofNat 32 _
  unfold ck
  simp
theorem ck_eq {yt : Nat → Int32} {i : Nat} (h : (yt i).toInt8.toInt32 = yt i) : yt i = (nI (ck yt i)).toInt8.toInt32 := by
  rw [← ck_and, fa_byte_low, h]
def fg (k : Nat) : Bool := decide (48 ≤ k) && decide (k ≤ 57)
theorem fg_x : ∀ k, k < 256 → fX4_isFigure (nI k) = some (nI (fg k).toNat) := by decide +kernel
theorem fg_m : ∀ k, k < 256 → fX10_in ((nI k).toInt8.toInt32).toInt64 (48 : Int64) (57 : Int64) = some (nI (fg k).toNat) := by decide +kernel
theorem fg_lt {k : Nat} (h : fg k = true) : 48 ≤ k ∧ k ≤ 57 := by
  unfold fg at h; rw [Bool.and_eq_true, decide_eq_true_eq, decide_eq_true_eq] at h; exact h
theorem by_neg : ∀ k, k < 256 → k < 128 ∨ ((nI k).toInt8.toInt32).toInt < 0 := by decide +kernel
theorem by_eq {k c : Nat} (hk : k < 256) (hc : c < 128) : ((nI k).toInt8.toInt32 = nI c) = (k = c) := by
  rcases by_neg k hk with h | h
  · rw [fa_byte_small h]; exact ni_eq (by omega) (by omega)
  · apply propext
    constructor
    · intro q
      rw [q, nI_toInt (by omega)] at h; omega
    · intro q
      subst q
      rw [fa_byte_small hc]
theorem x_at {len : Nat} {xb yt : Nat → Int32} (hl : len ≤ 200) (h : ITc len xb yt) {i : Nat} (hi : i ≤ 200) : fX6_at (nI len) xb (nI i) = some (if i < len then nI (ck yt i) else -1) := by
  unfold fX6_at
  rw [if_neg (show ¬ nI i < 0 from fun q => nI_pos (by omega) q)]
  by_cases e : i < len
  · rw [if_neg (by rw [nI_leI (by omega) (by omega)]; omega), if_neg (by rw [(show (200 : Int32) = nI 200 from rfl), nI_leI (by omega) (by omega)]; omega), if_neg (by
      rw [nI_clamp (by omega)]
      rintro (q | q)
      · exact nI_pos (by omega) q
      · omega), nI_clamp (by omega), (h i e).1, ck_and, if_pos e]
  · rw [if_pos (by rw [nI_leI (by omega) (by omega)]; omega), if_neg e]
/-- how many figures stand from a place on, and the number they write -/
def fc (q : Nat → Nat) : Nat → Nat → Nat
  | 0, _ => 0
  | m + 1, a => if fg (q a) = true then fc q m (a + 1) + 1 else 0
def fv (q : Nat → Nat) : Nat → Nat → Nat → Nat
  | 0, _, v => v
  | m + 1, a, v => if fg (q a) = true then fv q m (a + 1) (10 * v + q a - 48) else v
theorem fc_le (q : Nat → Nat) : ∀ m a, fc q m a ≤ m
  | 0, _ => Nat.le_refl 0
  | m + 1, a => by
    unfold fc
    have := fc_le q m (a + 1)
    split <;> omega
theorem number_m {len : Nat} {xb yt : Nat → Int32} (hl : len ≤ 200) (h : ITc len xb yt) (F : Nat) :
    ∀ m a n v (x1 : Int32), a + m = len → (n ≤ 2 → x1 = nI v) → n ≤ a → ∀ f, m < f → jl_loop3 (bX10_number_4 F (nI len) yt) f x1 (nI n) (nI a) = some (if 1 ≤ n + fc (ck yt) m a ∧ n + fc (ck yt) m a ≤ 2 then nI (fv (ck yt) m a v) else -1, nI (a + fc (ck yt) m a)) := by
  have hend : ∀ n a v (x1 : Int32), (n ≤ 2 → x1 = nI v) → n ≤ 400 → fX10_number_80 F (nI len) yt x1 (nI n) (nI a) = some (if 1 ≤ n ∧ n ≤ 2 then nI v else -1, nI a) := by
    intro n a v x1 hx hn
    unfold fX10_number_80
    have e2 : (2 : Int64) = (nI 2).toInt64 := by decide
    rw [e2, in1 (by omega) (by omega), Option.bind_some]
    by_cases c : 1 ≤ n ∧ n ≤ 2
    · have : (decide (1 ≤ n) && decide (n ≤ 2)) = true := by rw [Bool.and_eq_true, decide_eq_true_eq, decide_eq_true_eq]; exact c
      rw [this, if_neg (by decide), if_pos c, hx c.2]
    · have : (decide (1 ≤ n) && decide (n ≤ 2)) = false := by
        rw [Bool.and_eq_false_iff, decide_eq_false_iff_not, decide_eq_false_iff_not]; omega
      rw [this, if_pos (by decide), if_neg c]
  intro m
  induction m with
  | zero =>
    intro a n v x1 ha hx hn f hf
    obtain ⟨f', rfl⟩ : ∃ f', f = f' + 1 := ⟨f - 1, by omega⟩
    rw [jl_loop3_s]; unfold bX10_number_4
    rw [if_pos (by rw [nI_leI (by omega) (by omega)]; omega), hend n a v x1 hx (by omega)]
    rfl
  | succ m ih =>
    intro a n v x1 ha hx hn f hf
    obtain ⟨f', rfl⟩ : ∃ f', f = f' + 1 := ⟨f - 1, by omega⟩
    have hrec := fun n v x1 hx hn => ih (a + 1) n v x1 (by omega) hx hn f' (by omega)
    rw [jl_loop3_s]
    generalize jl_loop3 (bX10_number_4 F (nI len) yt) f' = K at hrec ⊢
    unfold bX10_number_4
    have hb := (h a (by omega)).2
    have hk := ck_lt yt a
    have gd : ¬ (nI a < 0 ∨ 200 ≤ (nI a).toNatClampNeg) := by
      rw [nI_clamp (by omega)]
      rintro (q | q)
      · exact nI_pos (by omega) q
      · omega
    rw [if_neg (by rw [nI_leI (by omega) (by omega)]; omega), if_neg gd, nI_clamp (by omega), ck_eq hb, fg_m _ hk, Option.bind_some]
    by_cases hf : fg (ck yt a) = true
    · have efc : fc (ck yt) (m + 1) a = fc (ck yt) m (a + 1) + 1 := by rw [fc, if_pos hf]
      have efv : fv (ck yt) (m + 1) a v = fv (ck yt) m (a + 1) (10 * v + ck yt a - 48) := by rw [fv, if_pos hf]
      have hk2 := fg_lt hf
      rw [hf, if_neg (by decide), efc, efv, show n + (fc (ck yt) m (a + 1) + 1) = n + 1 + fc (ck yt) m (a + 1) by omega, show a + (fc (ck yt) m (a + 1) + 1) = a + 1 + fc (ck yt) m (a + 1) by omega]
      unfold fX10_number_63
      simp only [jl_let_eq]
      rw [ni_of1, nI_add, show nI a + 1 = nI (a + 1) from nI_add a 1]
      by_cases h2 : 2 ≤ n
      · rw [if_pos (by rw [(show (2 : Int32) = nI 2 from rfl), nI_leI (by omega) (by omega)]; omega), hrec (n + 1) (10 * v + ck yt a - 48) x1 (by omega) (by omega)]
      · have gd' : ¬ (nI a < 0 ∨ 200 ≤ a) := by rw [nI_clamp (by omega)] at gd; exact gd
        rw [if_neg (by rw [(show (2 : Int32) = nI 2 from rfl), nI_leI (by omega) (by omega)]; omega), if_neg gd', fa_byte_small (by omega)]
        rw [hx (by omega), show (10 : Int32) * nI v = nI (10 * v) from pk_mul 10 v, nI_add, show nI (10 * v + ck yt a) - 48 = nI (10 * v + ck yt a - 48) from pk_sub (show 48 ≤ 10 * v + ck yt a by omega)]
        exact hrec (n + 1) (10 * v + ck yt a - 48) _ (fun _ => rfl) (by omega)
    · have hf' : fg (ck yt a) = false := by simpa using hf
      have efc : fc (ck yt) (m + 1) a = 0 := by rw [fc, if_neg hf]
      have efv : fv (ck yt) (m + 1) a v = v := by rw [fv, if_neg hf]
      rw [hf', if_pos (by decide), efc, efv]
      exact hend n a v x1 hx (by omega)

theorem number_x {len : Nat} {xb yt : Nat → Int32} (hl : len ≤ 200) (h : ITc len xb yt) {sign : Nat} (hs : fg sign = false) (hs2 : sign < 128) {m a : Nat} (ham : a + m = len) (F f : Nat) :
    ∃ j, jl_loop3 (bX4_number_5 F (nI len) xb (nI sign)) (f + 3) (nI 0) (nI 0) (nI a) = some (if (1 ≤ fc (ck yt) m a ∧ fc (ck yt) m a ≤ 2) ∧ a + fc (ck yt) m a < len ∧ ck yt (a + fc (ck yt) m a) = sign then (nI (fv (ck yt) m a 0), nI (a + fc (ck yt) m a + 1)) else (-1, j)) := by
  have hend : ∀ n a v, a ≤ 200 → 1 ≤ n → n ≤ 2 → fX4_number_58 F (nI len) xb (nI sign) (nI v) (nI n) (nI a) = some (if a < len ∧ ck yt a = sign then (nI v, nI (a + 1)) else (-1, nI a)) := by
    intro n a v ha n1 n2
    unfold fX4_number_58
    rw [if_neg (by rw [(show (0 : Int32) = nI 0 from rfl), nI_eq (by omega) (by omega)]; omega), x_at hl h ha, Option.bind_some]
    have hk := ck_lt yt a
    by_cases e : a < len
    · rw [if_pos e]
      by_cases e2 : ck yt a = sign
      · rw [if_pos (by rw [e2]), if_pos ⟨e, e2⟩]
        simp only [jl_let_eq]
        rw [show nI a + 1 = nI (a + 1) from nI_add a 1]
      · rw [if_neg (by rw [nI_eq (by omega) (by omega)]; exact e2), if_neg (fun q => e2 q.2)]
    · rw [if_neg e, if_neg (by
        intro q
        have := congrArg Int32.toInt q
        rw [nI_toInt (by omega), show (-1 : Int32).toInt = -1 by decide] at this
        omega), if_neg (fun q => e q.1)]
  have hgo : ∀ (K : Int32 → Int32 → Int32 → Option (Int32 × Int32)) n a v, a < len → n < 2 → fg (ck yt a) = true → bX4_number_5 F (nI len) xb (nI sign) K (nI v) (nI n) (nI a) = K (nI (10 * v + ck yt a - 48)) (nI (n + 1)) (nI (a + 1)) := by
    intro K n a v ha hn hf
    unfold bX4_number_5
    have hk2 := fg_lt hf
    rw [if_neg (by rw [(show (2 : Int32) = nI 2 from rfl), nI_leI (by omega) (by omega)]; omega), x_at hl h (by omega), if_pos ha, Option.bind_some, fg_x _ (ck_lt yt a), hf, Option.bind_some, if_neg (by decide), Option.bind_some]
    simp only [jl_let_eq]
    rw [show (10 : Int32) * nI v = nI (10 * v) from pk_mul 10 v, nI_add, show nI (10 * v + ck yt a) - 48 = nI (10 * v + ck yt a - 48) from pk_sub (show 48 ≤ 10 * v + ck yt a by omega), ni_of1, nI_add, show nI a + 1 = nI (a + 1) from nI_add a 1]
  have hno : ∀ (K : Int32 → Int32 → Int32 → Option (Int32 × Int32)) n a v, a ≤ len → n < 2 → (a < len → fg (ck yt a) = false) → bX4_number_5 F (nI len) xb (nI sign) K (nI v) (nI n) (nI a) = fX4_number_58 F (nI len) xb (nI sign) (nI v) (nI n) (nI a) := by
    intro K n a v ha hn hf
    unfold bX4_number_5
    rw [if_neg (by rw [(show (2 : Int32) = nI 2 from rfl), nI_leI (by omega) (by omega)]; omega), x_at hl h (by omega), Option.bind_some]
    by_cases e : a < len
    · rw [if_pos e, fg_x _ (ck_lt yt a), hf e, Option.bind_some, if_pos (by decide)]
    · rw [if_neg e, show fX4_isFigure (-1) = some 0 by decide, Option.bind_some, if_pos rfl]
  have h2 : ∀ (K : Int32 → Int32 → Int32 → Option (Int32 × Int32)) a v, bX4_number_5 F (nI len) xb (nI sign) K (nI v) (nI 2) (nI a) = fX4_number_58 F (nI len) xb (nI sign) (nI v) (nI 2) (nI a) := by
    intro K a v
    unfold bX4_number_5
    rw [if_pos (by decide)]
  by_cases c0 : fc (ck yt) m a = 0
  · refine ⟨nI a, ?_⟩
    rw [if_neg (by omega), jl_loop3_s, hno _ 0 a 0 (by omega) (by omega) ?_]
    · unfold fX4_number_58
      rw [if_pos (by decide)]
    · intro e
      obtain ⟨m', rfl⟩ : ∃ m', m = m' + 1 := ⟨m - 1, by omega⟩
      rw [fc] at c0
      by_cases q : fg (ck yt a) = true
      · rw [if_pos q] at c0; omega
      · simpa using q
  · obtain ⟨m', rfl⟩ : ∃ m', m = m' + 1 := ⟨m - 1, by have := fc_le (ck yt) m a; omega⟩
    have f1 : fg (ck yt a) = true := by
      by_cases q : fg (ck yt a) = true
      · exact q
      · rw [fc, if_neg q] at c0; exact absurd rfl c0
    have efc : fc (ck yt) (m' + 1) a = fc (ck yt) m' (a + 1) + 1 := by rw [fc, if_pos f1]
    have efv : fv (ck yt) (m' + 1) a 0 = fv (ck yt) m' (a + 1) (10 * 0 + ck yt a - 48) := by rw [fv, if_pos f1]
    rw [efc, efv, jl_loop3_s, hgo _ 0 a 0 (by omega) (by omega) f1, jl_loop3_s]
    by_cases c1 : fc (ck yt) m' (a + 1) = 0
    · refine ⟨nI (a + 1), ?_⟩
      rw [hno _ 1 (a + 1) _ (by omega) (by omega) ?_, hend 1 (a + 1) _ (by omega) (by omega) (by omega)]
      · have ev : fv (ck yt) m' (a + 1) (10 * 0 + ck yt a - 48) = 10 * 0 + ck yt a - 48 := by
          cases m' with
          | zero => rfl
          | succ m'' =>
            rw [fc] at c1
            rw [fv]
            by_cases q : fg (ck yt (a + 1)) = true
            · rw [if_pos q] at c1; omega
            · rw [if_neg q]
        rw [c1, ev]
        by_cases z : a + 1 < len ∧ ck yt (a + 1) = sign
        · rw [if_pos z, if_pos ⟨by omega, by omega, z.2⟩]
        · rw [if_neg z, if_neg (fun q => z ⟨by omega, q.2.2⟩)]
      · intro e
        obtain ⟨m'', rfl⟩ : ∃ m'', m' = m'' + 1 := ⟨m' - 1, by omega⟩
        rw [fc] at c1
        by_cases q : fg (ck yt (a + 1)) = true
        · rw [if_pos q] at c1; omega
        · simpa using q
    · obtain ⟨m'', rfl⟩ : ∃ m'', m' = m'' + 1 := ⟨m' - 1, by have := fc_le (ck yt) m' (a + 1); omega⟩
      have f2 : fg (ck yt (a + 1)) = true := by
        by_cases q : fg (ck yt (a + 1)) = true
        · exact q
        · rw [fc, if_neg q] at c1; exact absurd rfl c1
      have efc2 : fc (ck yt) (m'' + 1) (a + 1) = fc (ck yt) m'' (a + 1 + 1) + 1 := by rw [fc, if_pos f2]
      have efv2 : fv (ck yt) (m'' + 1) (a + 1) (10 * 0 + ck yt a - 48) = fv (ck yt) m'' (a + 1 + 1) (10 * (10 * 0 + ck yt a - 48) + ck yt (a + 1) - 48) := by rw [fv, if_pos f2]
      refine ⟨nI (a + 1 + 1), ?_⟩
      rw [efc2, efv2, hgo _ 1 (a + 1) _ (by omega) (by omega) f2, jl_loop3_s, h2, hend 2 (a + 1 + 1) _ (by omega) (by omega) (by omega)]
      by_cases c2 : fc (ck yt) m'' (a + 1 + 1) = 0
      · have ev : ∀ v, fv (ck yt) m'' (a + 1 + 1) v = v := by
          intro v
          cases m'' with
          | zero => rfl
          | succ m3 =>
            rw [fc] at c2
            rw [fv]
            by_cases q : fg (ck yt (a + 1 + 1)) = true
            · rw [if_pos q] at c2; omega
            · rw [if_neg q]
        rw [c2, ev]
        by_cases z : a + 1 + 1 < len ∧ ck yt (a + 1 + 1) = sign
        · rw [if_pos z, if_pos ⟨by omega, by omega, z.2⟩]
        · rw [if_neg z, if_neg (fun q => z ⟨by omega, q.2.2⟩)]
      · suffices hz : ¬ (a + 1 + 1 < len ∧ ck yt (a + 1 + 1) = sign) by rw [if_neg hz, if_neg (by omega)]
        rintro ⟨z1, z2⟩
        obtain ⟨m3, rfl⟩ : ∃ m3, m'' = m3 + 1 := ⟨m'' - 1, by omega⟩
        have f3 : fg (ck yt (a + 1 + 1)) = true := by
          by_cases q : fg (ck yt (a + 1 + 1)) = true
          · exact q
          · rw [fc, if_neg q] at c2; exact absurd rfl c2
        rw [z2, hs] at f3
        exact absurd f3 (by decide)
theorem fv_99 (q : Nat → Nat) : ∀ m a v n, fc q m a + n ≤ 2 → v < 10 ^ n → fv q m a v ≤ 99
  | 0, a, v, n, h, hv => by
    unfold fv
    have : 10 ^ n ≤ 10 ^ 2 := Nat.pow_le_pow_right (by omega) (by unfold fc at h; omega)
    omega
  | m + 1, a, v, n, h, hv => by
    unfold fv
    unfold fc at h
    by_cases z : fg (q a) = true
    · rw [if_pos z] at h ⊢
      have hz := fg_lt z
      refine fv_99 q m (a + 1) _ (n + 1) (by omega) ?_
      rw [Nat.pow_succ]; omega
    · rw [if_neg z] at h ⊢
      have : 10 ^ n ≤ 10 ^ 2 := Nat.pow_le_pow_right (by omega) (by omega)
      omega
