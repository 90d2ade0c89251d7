/-! Integer.bitCount counts -/
theorem and_dig {k a b c d : Nat} (ha : a < 2 ^ k) (hc : c < 2 ^ k) : (2 ^ k * b + a) &&& (2 ^ k * d + c) = 2 ^ k * (b &&& d) + (a &&& c) := by
  apply Nat.eq_of_testBit_eq; intro i
  have hac : a &&& c < 2 ^ k := Nat.lt_of_le_of_lt Nat.and_le_left ha
  rw [Nat.testBit_and, Nat.testBit_two_pow_mul_add _ ha, Nat.testBit_two_pow_mul_add _ hc, Nat.testBit_two_pow_mul_add _ hac]
  by_cases h : i < k <;> simp [h]
/-- the nibbles' picture -/
def nib (f : Nat → Nat) : Nat → Nat → Nat
  | 0, _ => 0
  | n + 1, x => 2 ^ 4 * nib f n (x / 16) + f (x % 16)
def rep16 (m : Nat) : Nat → Nat
  | 0 => 0
  | n + 1 => 2 ^ 4 * rep16 m n + m
theorem nib_id {n x : Nat} (h : x < 16 ^ n) : nib (fun d => d) n x = x := by
  induction n generalizing x with
  | zero => simp at h; subst h; rfl
  | succ n ih =>
    have : x / 16 < 16 ^ n := by rw [Nat.pow_succ] at h; omega
    show 2 ^ 4 * nib _ n (x / 16) + x % 16 = x
    rw [ih this]; omega
theorem nib_1 : ∀ (n x : Nat), (x / 2) &&& rep16 5 n = nib (fun d => (d / 2) &&& 5) n x
  | 0, x => by simp [rep16, nib]
  | n + 1, x => by
    show (x / 2) &&& (2 ^ 4 * rep16 5 n + 5) = 2 ^ 4 * nib _ n (x / 16) + ((x % 16 / 2) &&& 5)
    rw [← nib_1 n (x / 16)]
    have e : x / 2 = 2 ^ 4 * (x / 16 / 2) + (x % 16 / 2 + 8 * (x / 16 % 2)) := by omega
    have h8 : ∀ a, a < 8 → ∀ b, b < 2 → (a + 8 * b) &&& 5 = a &&& 5 := by decide
    rw [e, and_dig (by omega) (by omega), h8 _ (by omega) _ (by omega)]
theorem nib_sub {f : Nat → Nat} (hf : ∀ d, d < 16 → f d ≤ d) : ∀ (n x : Nat), nib (fun d => d) n x - nib f n x = nib (fun d => d - f d) n x ∧ nib f n x ≤ nib (fun d => d) n x
  | 0, x => by simp [nib]
  | n + 1, x => by
    obtain ⟨h1, h2⟩ := nib_sub hf n (x / 16)
    have h3 := hf (x % 16) (Nat.mod_lt _ (by omega))
    simp only [nib]
    rw [← h1]
    omega
theorem nib_lt {f : Nat → Nat} (hf : ∀ d, d < 16 → f d < 16) : ∀ (n x : Nat), nib f n x < 16 ^ n
  | 0, x => by simp [nib]
  | n + 1, x => by
    have h := nib_lt hf n (x / 16)
    have h2 := hf (x % 16) (Nat.mod_lt _ (by omega))
    simp only [nib]; rw [Nat.pow_succ]; omega
theorem nib_3 {f : Nat → Nat} (hf : ∀ d, d < 16 → f d < 16) : ∀ (n x : Nat), nib f n x &&& rep16 3 n = nib (fun d => f d &&& 3) n x
  | 0, x => by simp [rep16, nib]
  | n + 1, x => by
    show (2 ^ 4 * nib f n (x / 16) + f (x % 16)) &&& (2 ^ 4 * rep16 3 n + 3) = 2 ^ 4 * nib _ n (x / 16) + (f (x % 16) &&& 3)
    rw [and_dig (hf _ (Nat.mod_lt _ (by omega))) (by omega), nib_3 hf n]
theorem nib_43 {f : Nat → Nat} (hf : ∀ d, d < 16 → f d < 16) : ∀ (n x : Nat), (nib f n x / 4) &&& rep16 3 n = nib (fun d => (f d / 4) &&& 3) n x
  | 0, x => by simp [rep16, nib]
  | n + 1, x => by
    show ((2 ^ 4 * nib f n (x / 16) + f (x % 16)) / 4) &&& (2 ^ 4 * rep16 3 n + 3) = 2 ^ 4 * nib _ n (x / 16) + ((f (x % 16) / 4) &&& 3)
    rw [← nib_43 hf n (x / 16)]
    have h2 := hf (x % 16) (Nat.mod_lt _ (by omega))
    have e : (2 ^ 4 * nib f n (x / 16) + f (x % 16)) / 4 = 2 ^ 4 * (nib f n (x / 16) / 4) + (f (x % 16) / 4 + 4 * (nib f n (x / 16) % 4)) := by omega
    have h8 : ∀ a, a < 4 → ∀ b, b < 4 → (a + 4 * b) &&& 3 = a &&& 3 := by decide
    rw [e, and_dig (by omega) (by omega), h8 _ (by omega) _ (by omega)]
theorem nib_add (f g : Nat → Nat) : ∀ (n x : Nat), nib f n x + nib g n x = nib (fun d => f d + g d) n x
  | 0, x => rfl
  | n + 1, x => by simp only [nib]; rw [← nib_add f g n]; omega
theorem nib_cong {f g : Nat → Nat} (h : ∀ d, d < 16 → f d = g d) : ∀ (n x : Nat), nib f n x = nib g n x
  | 0, x => rfl
  | n + 1, x => by simp only [nib]; rw [nib_cong h n, h _ (Nat.mod_lt _ (by omega))]
def pc4 (d : Nat) : Nat := d % 2 + d / 2 % 2 + d / 4 % 2 + d / 8 % 2
theorem pc4_le (d : Nat) : pc4 d ≤ 4 := by unfold pc4; omega
/-- the count of a number's lowest bits -/
theorem ct_nib : ∀ (n x : Nat), fb_ct x.testBit (4 * n) = (List.range n).foldl (fun a j => a + pc4 (x / 16 ^ j % 16)) 0
  | 0, x => rfl
  | n + 1, x => by
    rw [List.range_succ, List.foldl_append, ← ct_nib n x]
    show fb_ct x.testBit (4 * n + 4) = _
    simp only [fb_ct_succ, List.foldl_cons, List.foldl_nil]
    have e : 16 ^ n = 2 ^ (4 * n) := by rw [show (16 : Nat) = 2 ^ 4 from rfl, ← Nat.pow_mul]
    have hb : ∀ j, (if x.testBit (4 * n + j) = true then 1 else 0) = x / 16 ^ n / 2 ^ j % 2 := by
      intro j
      rw [Nat.testBit_eq_decide_div_mod_eq, e, Nat.div_div_eq_div_mul, ← Nat.pow_add]
      have : x / 2 ^ (4 * n + j) % 2 < 2 := Nat.mod_lt _ (by omega)
      by_cases h : x / 2 ^ (4 * n + j) % 2 = 1
      · simp [h]
      · simp [h]; omega
    rw [hb 3]
    have h2 := hb 2; have h1 := hb 1; have h0 := hb 0
    simp only [Nat.add_zero] at h0
    rw [h2, h1, h0]
    unfold pc4
    have : x / 16 ^ n % 16 % 2 = x / 16 ^ n % 2 := by omega
    generalize x / 16 ^ n = y
    have e8 : y / 2 ^ 3 % 2 = y % 16 / 8 % 2 := by omega
    have e4 : y / 2 ^ 2 % 2 = y % 16 / 4 % 2 := by omega
    have e2 : y / 2 ^ 1 % 2 = y % 16 / 2 % 2 := by omega
    have e1 : y / 2 ^ 0 % 2 = y % 16 % 2 := by omega
    rw [e8, e4, e2, e1]; omega
theorem ni_ush {n : Nat} (hn : n < 2 ^ 32) {j : Nat} (hj : j < 32) : ((nI n).toUInt32 >>> ((nI j).toUInt32 &&& Int32.toUInt32 31)).toInt32 = nI (n / 2 ^ j) := pk_ushrN hn _ j (s_u j hj)
theorem bitCount_ok {m : Nat} (hm : m < 2 ^ 31) : fJ6_bitCount_0f7a4 (nI m) = some (nI (fb_ct m.testBit 32)) := by
  have hm16 : m < 16 ^ 8 := by omega
  unfold fJ6_bitCount_0f7a4
  simp only [jl_let_eq]
  have c1 : (1431655765 : Int32) = nI (rep16 5 8) := by decide
  have c2 : (858993459 : Int32) = nI (rep16 3 8) := by decide
  have c3 : (252645135 : Int32) = nI 252645135 := by decide
  have c4 : (63 : Int32) = nI (2 ^ 6 - 1) := by decide
  have l1 : (1 : Int32) = nI 1 := by decide
  have l2 : (2 : Int32) = nI 2 := by decide
  have l4 : (4 : Int32) = nI 4 := by decide
  have l8 : (8 : Int32) = nI 8 := by decide
  have l16 : (16 : Int32) = nI 16 := by decide
  rw [c1, c2, c3, c4, l1, l2, l4, l8, l16]
  have hsub := nib_sub (f := fun d => (d / 2) &&& 5) (by decide) 8 m
  rw [nib_id hm16] at hsub
  rw [ni_ush (by omega) (by omega), ni_and, show m / 2 ^ 1 = m / 2 from rfl, nib_1, pk_sub hsub.2, hsub.1]
  generalize hv1 : nib (fun d => d - (d / 2 &&& 5)) 8 m = v1
  have hv1l : v1 < 16 ^ 8 := by rw [← hv1]; exact nib_lt (by decide) 8 m
  rw [ni_ush (by omega) (by omega), ni_and, ni_and, nI_add, show v1 / 2 ^ 2 = v1 / 4 from rfl, ← hv1, nib_3 (by decide), nib_43 (by decide), nib_add, nib_cong (g := pc4) (by decide)]
  -- the sum of the nibbles
  have hd : ∀ j, m / 16 ^ j % 16 < 16 := fun j => Nat.mod_lt _ (by omega)
  have e0 := pc4_le (m % 16)
  have hn : nib pc4 8 m = pc4 (m % 16) + 16 * pc4 (m / 16 % 16) + 16 ^ 2 * pc4 (m / 16 / 16 % 16) + 16 ^ 3 * pc4 (m / 16 / 16 / 16 % 16) + 16 ^ 4 * pc4 (m / 16 / 16 / 16 / 16 % 16) + 16 ^ 5 * pc4 (m / 16 / 16 / 16 / 16 / 16 % 16) + 16 ^ 6 * pc4 (m / 16 / 16 / 16 / 16 / 16 / 16 % 16) + 16 ^ 7 * pc4 (m / 16 / 16 / 16 / 16 / 16 / 16 / 16 % 16) := by
    simp only [nib]
    omega
  rw [show fb_ct m.testBit 32 = _ from ct_nib 8 m, hn]
  simp only [List.range, List.range.loop, List.foldl_cons, List.foldl_nil, Nat.pow_zero, Nat.div_one, Nat.zero_add]
  rw [show m / 16 ^ 1 = m / 16 by omega]
  rw [show m / 16 ^ 2 = m / 16 / 16 by omega]
  rw [show m / 16 ^ 3 = m / 16 / 16 / 16 by omega]
  rw [show m / 16 ^ 4 = m / 16 / 16 / 16 / 16 by omega]
  rw [show m / 16 ^ 5 = m / 16 / 16 / 16 / 16 / 16 by omega]
  rw [show m / 16 ^ 6 = m / 16 / 16 / 16 / 16 / 16 / 16 by omega]
  rw [show m / 16 ^ 7 = m / 16 / 16 / 16 / 16 / 16 / 16 / 16 by omega]
  have q0 := pc4_le (m % 16)
  have q1 := pc4_le (m / 16 % 16)
  have q2 := pc4_le (m / 16 / 16 % 16)
  have q3 := pc4_le (m / 16 / 16 / 16 % 16)
  have q4 := pc4_le (m / 16 / 16 / 16 / 16 % 16)
  have q5 := pc4_le (m / 16 / 16 / 16 / 16 / 16 % 16)
  have q6 := pc4_le (m / 16 / 16 / 16 / 16 / 16 / 16 % 16)
  have q7 := pc4_le (m / 16 / 16 / 16 / 16 / 16 / 16 / 16 % 16)
  generalize pc4 (m % 16) = a0 at *
  generalize pc4 (m / 16 % 16) = a1 at *
  generalize pc4 (m / 16 / 16 % 16) = a2 at *
  generalize pc4 (m / 16 / 16 / 16 % 16) = a3 at *
  generalize pc4 (m / 16 / 16 / 16 / 16 % 16) = a4 at *
  generalize pc4 (m / 16 / 16 / 16 / 16 / 16 % 16) = a5 at *
  generalize pc4 (m / 16 / 16 / 16 / 16 / 16 / 16 % 16) = a6 at *
  generalize pc4 (m / 16 / 16 / 16 / 16 / 16 / 16 / 16 % 16) = a7 at *
  rw [ni_ush (by omega) (by omega), nI_add, ni_and]
  have hmk : (252645135 : Nat) = 2 ^ 8 * (2 ^ 8 * (2 ^ 8 * 15 + 15) + 15) + 15 := by decide
  have e : a0 + 16 * a1 + 16 ^ 2 * a2 + 16 ^ 3 * a3 + 16 ^ 4 * a4 + 16 ^ 5 * a5 + 16 ^ 6 * a6 + 16 ^ 7 * a7 + (a0 + 16 * a1 + 16 ^ 2 * a2 + 16 ^ 3 * a3 + 16 ^ 4 * a4 + 16 ^ 5 * a5 + 16 ^ 6 * a6 + 16 ^ 7 * a7) / 2 ^ 4
      = 2 ^ 8 * (2 ^ 8 * (2 ^ 8 * ((a6 + a7) + 16 * a7) + ((a4 + a5) + 16 * (a5 + a6))) + ((a2 + a3) + 16 * (a3 + a4))) + ((a0 + a1) + 16 * (a1 + a2)) := by omega
  have h15 : ∀ x, x < 16 → ∀ y, y < 16 → (x + 16 * y) &&& 15 = x := by decide
  rw [e, hmk, and_dig (by omega) (by omega), and_dig (by omega) (by omega), and_dig (by omega) (by omega), h15 _ (by omega) _ (by omega), h15 _ (by omega) _ (by omega), h15 _ (by omega) _ (by omega), h15 _ (by omega) _ (by omega)]
  rw [show a0 + a1 + a2 + a3 + a4 + a5 + a6 + a7 = (a0 + a1) + (a2 + a3) + (a4 + a5) + (a6 + a7) by omega]
  obtain ⟨B0, hB0⟩ : ∃ B, B = a0 + a1 := ⟨_, rfl⟩
  obtain ⟨B1, hB1⟩ : ∃ B, B = a2 + a3 := ⟨_, rfl⟩
  obtain ⟨B2, hB2⟩ : ∃ B, B = a4 + a5 := ⟨_, rfl⟩
  obtain ⟨B3, hB3⟩ : ∃ B, B = a6 + a7 := ⟨_, rfl⟩
  rw [← hB0, ← hB1, ← hB2, ← hB3]
  have : B0 ≤ 8 ∧ B1 ≤ 8 ∧ B2 ≤ 8 ∧ B3 ≤ 8 := by omega
  obtain ⟨g0, g1, g2, g3⟩ := this
  clear e hmk h15 hn hsub hv1 hv1l q0 q1 q2 q3 q4 q5 q6 q7 hB0 hB1 hB2 hB3 e0 hd
  have x1 : (2 ^ 8 * (2 ^ 8 * (2 ^ 8 * B3 + B2) + B1) + B0) / 2 ^ 8 = 2 ^ 8 * (2 ^ 8 * B3 + B2) + B1 := by omega
  rw [ni_ush (by omega) (by omega), nI_add, x1]
  have x2 : 2 ^ 8 * (2 ^ 8 * (2 ^ 8 * B3 + B2) + B1) + B0 + (2 ^ 8 * (2 ^ 8 * B3 + B2) + B1) = 2 ^ 16 * (2 ^ 8 * B3 + (B2 + B3)) + (2 ^ 8 * (B1 + B2) + (B0 + B1)) := by omega
  rw [x2]
  have x3 : (2 ^ 16 * (2 ^ 8 * B3 + (B2 + B3)) + (2 ^ 8 * (B1 + B2) + (B0 + B1))) / 2 ^ 16 = 2 ^ 8 * B3 + (B2 + B3) := by omega
  rw [ni_ush (by omega) (by omega), nI_add, x3, fa_mask]
  congr 2
  omega
