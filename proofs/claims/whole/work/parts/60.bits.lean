/-! sets of bits as numbers -/
def nb : Nat → (Nat → Bool) → Nat
  | 0, _ => 0
  | n + 1, f => 2 ^ n * (f n).toNat + nb n f
theorem nb_lt (n : Nat) (f : Nat → Bool) : nb n f < 2 ^ n := by
  induction n with
  | zero => exact Nat.one_pos
  | succ n ih =>
    show 2 ^ n * (f n).toNat + nb n f < 2 ^ (n + 1)
    cases f n <;> simp [Bool.toNat, Nat.pow_succ] <;> omega
theorem nb_tb (n : Nat) (f : Nat → Bool) (i : Nat) : (nb n f).testBit i = (decide (i < n) && f i) := by
  induction n with
  | zero => simp [nb]
  | succ n ih =>
    show (2 ^ n * (f n).toNat + nb n f).testBit i = _
    rw [Nat.testBit_two_pow_mul_add _ (nb_lt n f), ih]
    rcases Nat.lt_trichotomy i n with h | h | h
    · rw [if_pos h]; simp [h, Nat.lt_succ_of_lt h]
    · subst h; rw [if_neg (Nat.lt_irrefl i)]; cases f i <;> simp
    · rw [if_neg (by omega)]
      have : ¬ i < n + 1 := by omega
      simp only [this, decide_false, Bool.false_and]
      have h2 : i - n ≠ 0 := by omega
      obtain ⟨k, hk⟩ := Nat.exists_eq_succ_of_ne_zero h2
      rw [hk]
      cases f n <;> simp [Nat.testBit_succ]
theorem nb_of {m n : Nat} (h : m < 2 ^ n) : nb n m.testBit = m := by
  apply Nat.eq_of_testBit_eq
  intro i
  rw [nb_tb]
  by_cases hi : i < n
  · simp [hi]
  · simp only [hi, decide_false, Bool.false_and]
    exact (Nat.testBit_lt_two_pow (Nat.lt_of_lt_of_le h (Nat.pow_le_pow_right (by omega) (by omega)))).symm
theorem nb_cong {n : Nat} {f g : Nat → Bool} (h : ∀ i, i < n → f i = g i) : nb n f = nb n g := by
  apply Nat.eq_of_testBit_eq
  intro i
  rw [nb_tb, nb_tb]
  by_cases hi : i < n
  · simp [hi, h i hi]
  · simp [hi]
theorem nb_ext {n m : Nat} {f : Nat → Bool} (hm : m < 2 ^ n) (h : ∀ i, i < n → m.testBit i = f i) : m = nb n f := by
  rw [← nb_of hm]; exact nb_cong h
theorem nb_inj {n : Nat} {f g : Nat → Bool} (h : nb n f = nb n g) {i : Nat} (hi : i < n) : f i = g i := by
  have := congrArg (fun m => m.testBit i) h
  simpa [nb_tb, hi] using this
theorem nb_and (n : Nat) (f g : Nat → Bool) : nb n f &&& nb n g = nb n (fun i => f i && g i) := by
  apply Nat.eq_of_testBit_eq; intro i
  simp only [Nat.testBit_and, nb_tb]; cases decide (i < n) <;> simp
theorem nb_or (n : Nat) (f g : Nat → Bool) : nb n f ||| nb n g = nb n (fun i => f i || g i) := by
  apply Nat.eq_of_testBit_eq; intro i
  simp only [Nat.testBit_or, nb_tb]; cases decide (i < n) <;> simp
theorem nb_zero {n : Nat} {f : Nat → Bool} : nb n f = 0 ↔ ∀ i, i < n → f i = false := by
  constructor
  · intro h i hi
    have := congrArg (fun m => m.testBit i) h
    simpa [nb_tb, hi] using this
  · intro h
    rw [nb_cong (g := fun _ => false) h]
    apply Nat.eq_of_testBit_eq; intro i; simp [nb_tb]
theorem nb_ne {n : Nat} {f : Nat → Bool} : nb n f ≠ 0 ↔ ∃ i, i < n ∧ f i = true := by
  constructor
  · intro h
    apply Classical.byContradiction
    intro hc
    apply h
    rw [nb_zero]
    intro i hi
    cases hf : f i with
    | false => rfl
    | true => exact absurd ⟨i, hi, hf⟩ hc
  · rintro ⟨i, hi, hf⟩ h
    rw [nb_zero] at h
    rw [h i hi] at hf; cases hf
theorem nb_one {n k : Nat} (hk : k < n) : nb n (fun i => decide (i = k)) = 2 ^ k := by
  apply Nat.eq_of_testBit_eq; intro i
  rw [nb_tb, Nat.testBit_two_pow]
  by_cases h : i = k
  · subst h; simp [hk]
  · simp [h, Ne.symm h]
theorem nb_lt31 {n : Nat} (hn : n ≤ 31) (f : Nat → Bool) : nb n f < 2 ^ 31 := Nat.lt_of_lt_of_le (nb_lt n f) (Nat.pow_le_pow_right (by omega) hn)
/-- and-not -/
def adn (a b : Nat) : Nat := a &&& (b ^^^ (2 ^ 32 - 1))
theorem adn_tb {a b : Nat} (ha : a < 2 ^ 32) (i : Nat) : (adn a b).testBit i = (a.testBit i && !b.testBit i) := by
  unfold adn
  rw [Nat.testBit_and, Nat.testBit_xor, Nat.testBit_two_pow_sub_one]
  by_cases hi : i < 32
  · simp [hi]
  · have : a.testBit i = false := Nat.testBit_lt_two_pow (Nat.lt_of_lt_of_le ha (Nat.pow_le_pow_right (by omega) (by omega)))
    simp [this]
theorem nb_adn {n m : Nat} (hn : n ≤ 32) (f g : Nat → Bool) : adn (nb n f) (nb m g) = nb n (fun i => f i && !(decide (i < m) && g i)) := by
  apply Nat.eq_of_testBit_eq; intro i
  rw [adn_tb (Nat.lt_of_lt_of_le (nb_lt n f) (Nat.pow_le_pow_right (by omega) hn)), nb_tb, nb_tb, nb_tb]
  cases decide (i < n) <;> simp
theorem ni_adn (a b : Nat) : nI a &&& (nI b ^^^ -nI 1) = nI (adn a b) := by
  rw [show (-nI 1 : Int32) = nI (2 ^ 32 - 1) from rfl, fb_xorI, fa_and]; rfl
theorem ni_and (a b : Nat) : nI a &&& nI b = nI (a &&& b) := fa_and a b
theorem ni_or (a b : Nat) : nI a ||| nI b = nI (a ||| b) := fa_or a b
theorem ni_bit {m j : Nat} (hm : m < 2 ^ 31) (hj : j < 32) : (nI m >>> (nI j &&& nI 31)) &&& nI 1 = nI (m.testBit j).toNat := by
  rw [pk_shrN hm _ j (by exact s_l j hj), show (nI 1 : Int32) = nI (2 ^ 1 - 1) from rfl, fa_mask, Nat.testBit_eq_decide_div_mod_eq]
  have : m / 2 ^ j % 2 < 2 := Nat.mod_lt _ (by omega)
  have h2 : m / 2 ^ j % 2 ^ 1 = m / 2 ^ j % 2 := by rw [Nat.pow_one]
  rw [h2]
  rcases (show m / 2 ^ j % 2 = 0 ∨ m / 2 ^ j % 2 = 1 by omega) with h | h <;> rw [h] <;> rfl
theorem ni_shl (m : Nat) {j : Nat} (hj : j < 32) : nI m <<< (nI j &&& nI 31) = nI (m * 2 ^ j) := by
  have h1 : (nI m <<< (nI j &&& nI 31)).toBitVec.toNat = (nI (m * 2 ^ j)).toBitVec.toNat := by
    rw [pk_shl (nI m) (nI j &&& nI 31) j (s_l j hj)]
    show (BitVec.ofNat 32 m).toNat * 2 ^ j % 2 ^ 32 = (BitVec.ofNat 32 (m * 2 ^ j)).toNat
    rw [BitVec.toNat_ofNat, BitVec.toNat_ofNat, Nat.mod_mul_mod]
  exact Int32.toBitVec_inj.mp (BitVec.eq_of_toNat_eq h1)
theorem tb_shl (m j i : Nat) : (m * 2 ^ j).testBit i = (decide (j ≤ i) && m.testBit (i - j)) := by
  rw [← Nat.shiftLeft_eq, Nat.testBit_shiftLeft]
theorem ni_shr {m j : Nat} (hm : m < 2 ^ 31) (hj : j < 32) : nI m >>> (nI j &&& nI 31) = nI (m / 2 ^ j) := pk_shrN hm _ j (s_l j hj)
theorem tb_shr (m j i : Nat) : (m / 2 ^ j).testBit i = m.testBit (i + j) := Nat.testBit_div_two_pow m i
theorem b2n_0 {b : Bool} : (nI b.toNat = nI 0) = (b = false) := by cases b <;> decide
theorem b2n_1 {b : Bool} : (nI b.toNat = nI 1) = (b = true) := by cases b <;> decide
/-- for all below, there is one below -/
def jall (f : Nat → Bool) : Nat → Bool
  | 0 => true
  | n + 1 => jall f n && f n
theorem jall_iff {f : Nat → Bool} {n : Nat} : jall f n = true ↔ ∀ i, i < n → f i = true := by
  induction n with
  | zero => simp [jall]
  | succ n ih =>
    simp only [jall, Bool.and_eq_true, ih]
    constructor
    · rintro ⟨h1, h2⟩ i hi
      rcases Nat.lt_or_ge i n with h | h
      · exact h1 i h
      · have : i = n := by omega
        subst this; exact h2
    · intro h; exact ⟨fun i hi => h i (by omega), h n (by omega)⟩
theorem jall_cong {f g : Nat → Bool} {n : Nat} (h : ∀ i, i < n → f i = g i) : jall f n = jall g n := by
  induction n with
  | zero => rfl
  | succ n ih => simp only [jall]; rw [ih (fun i hi => h i (by omega)), h n (by omega)]
