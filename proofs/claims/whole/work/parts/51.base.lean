/-! loops by an invariant with a measure; plain facts of numbers -/
theorem jl_run1 {A1 R : Type} {body : (A1 → Option R) → A1 → Option R} {E : Option R} (I : Nat → A1 → Prop) (hs : ∀ (m : Nat) (a1 : A1), I m a1 → (∀ k, body k a1 = E) ∨ ∃ (m' : Nat) (b1 : A1), m' < m ∧ I m' b1 ∧ ∀ k, body k a1 = k b1) : ∀ (n m : Nat) (a1 : A1), I m a1 → m < n → jl_loop1 body n a1 = E := by
  intro n
  induction n with
  | zero => intro m a1 _ h; exact absurd h (Nat.not_lt_zero m)
  | succ n ih =>
    intro m a1 hI hm
    rw [jl_loop1_s]
    rcases hs m a1 hI with h | ⟨m', b1, h1, h2, h3⟩
    · exact h _
    · rw [h3]; exact ih m' b1 h2 (by omega)
theorem jl_run2 {A1 A2 R : Type} {body : (A1 → A2 → Option R) → A1 → A2 → Option R} {E : Option R} (I : Nat → A1 → A2 → Prop) (hs : ∀ (m : Nat) (a1 : A1) (a2 : A2), I m a1 a2 → (∀ k, body k a1 a2 = E) ∨ ∃ (m' : Nat) (b1 : A1) (b2 : A2), m' < m ∧ I m' b1 b2 ∧ ∀ k, body k a1 a2 = k b1 b2) : ∀ (n m : Nat) (a1 : A1) (a2 : A2), I m a1 a2 → m < n → jl_loop2 body n a1 a2 = E := by
  intro n
  induction n with
  | zero => intro m a1 a2 _ h; exact absurd h (Nat.not_lt_zero m)
  | succ n ih =>
    intro m a1 a2 hI hm
    rw [jl_loop2_s]
    rcases hs m a1 a2 hI with h | ⟨m', b1, b2, h1, h2, h3⟩
    · exact h _
    · rw [h3]; exact ih m' b1 b2 h2 (by omega)
theorem jl_run3 {A1 A2 A3 R : Type} {body : (A1 → A2 → A3 → Option R) → A1 → A2 → A3 → Option R} {E : Option R} (I : Nat → A1 → A2 → A3 → Prop) (hs : ∀ (m : Nat) (a1 : A1) (a2 : A2) (a3 : A3), I m a1 a2 a3 → (∀ k, body k a1 a2 a3 = E) ∨ ∃ (m' : Nat) (b1 : A1) (b2 : A2) (b3 : A3), m' < m ∧ I m' b1 b2 b3 ∧ ∀ k, body k a1 a2 a3 = k b1 b2 b3) : ∀ (n m : Nat) (a1 : A1) (a2 : A2) (a3 : A3), I m a1 a2 a3 → m < n → jl_loop3 body n a1 a2 a3 = E := by
  intro n
  induction n with
  | zero => intro m a1 a2 a3 _ h; exact absurd h (Nat.not_lt_zero m)
  | succ n ih =>
    intro m a1 a2 a3 hI hm
    rw [jl_loop3_s]
    rcases hs m a1 a2 a3 hI with h | ⟨m', b1, b2, b3, h1, h2, h3⟩
    · exact h _
    · rw [h3]; exact ih m' b1 b2 b3 h2 (by omega)
theorem jl_run4 {A1 A2 A3 A4 R : Type} {body : (A1 → A2 → A3 → A4 → Option R) → A1 → A2 → A3 → A4 → Option R} {E : Option R} (I : Nat → A1 → A2 → A3 → A4 → Prop) (hs : ∀ (m : Nat) (a1 : A1) (a2 : A2) (a3 : A3) (a4 : A4), I m a1 a2 a3 a4 → (∀ k, body k a1 a2 a3 a4 = E) ∨ ∃ (m' : Nat) (b1 : A1) (b2 : A2) (b3 : A3) (b4 : A4), m' < m ∧ I m' b1 b2 b3 b4 ∧ ∀ k, body k a1 a2 a3 a4 = k b1 b2 b3 b4) : ∀ (n m : Nat) (a1 : A1) (a2 : A2) (a3 : A3) (a4 : A4), I m a1 a2 a3 a4 → m < n → jl_loop4 body n a1 a2 a3 a4 = E := by
  intro n
  induction n with
  | zero => intro m a1 a2 a3 a4 _ h; exact absurd h (Nat.not_lt_zero m)
  | succ n ih =>
    intro m a1 a2 a3 a4 hI hm
    rw [jl_loop4_s]
    rcases hs m a1 a2 a3 a4 hI with h | ⟨m', b1, b2, b3, b4, h1, h2, h3⟩
    · exact h _
    · rw [h3]; exact ih m' b1 b2 b3 b4 h2 (by omega)
theorem jl_run5 {A1 A2 A3 A4 A5 R : Type} {body : (A1 → A2 → A3 → A4 → A5 → Option R) → A1 → A2 → A3 → A4 → A5 → Option R} {E : Option R} (I : Nat → A1 → A2 → A3 → A4 → A5 → Prop) (hs : ∀ (m : Nat) (a1 : A1) (a2 : A2) (a3 : A3) (a4 : A4) (a5 : A5), I m a1 a2 a3 a4 a5 → (∀ k, body k a1 a2 a3 a4 a5 = E) ∨ ∃ (m' : Nat) (b1 : A1) (b2 : A2) (b3 : A3) (b4 : A4) (b5 : A5), m' < m ∧ I m' b1 b2 b3 b4 b5 ∧ ∀ k, body k a1 a2 a3 a4 a5 = k b1 b2 b3 b4 b5) : ∀ (n m : Nat) (a1 : A1) (a2 : A2) (a3 : A3) (a4 : A4) (a5 : A5), I m a1 a2 a3 a4 a5 → m < n → jl_loop5 body n a1 a2 a3 a4 a5 = E := by
  intro n
  induction n with
  | zero => intro m a1 a2 a3 a4 a5 _ h; exact absurd h (Nat.not_lt_zero m)
  | succ n ih =>
    intro m a1 a2 a3 a4 a5 hI hm
    rw [jl_loop5_s]
    rcases hs m a1 a2 a3 a4 a5 hI with h | ⟨m', b1, b2, b3, b4, b5, h1, h2, h3⟩
    · exact h _
    · rw [h3]; exact ih m' b1 b2 b3 b4 b5 h2 (by omega)
theorem jl_run6 {A1 A2 A3 A4 A5 A6 R : Type} {body : (A1 → A2 → A3 → A4 → A5 → A6 → Option R) → A1 → A2 → A3 → A4 → A5 → A6 → Option R} {E : Option R} (I : Nat → A1 → A2 → A3 → A4 → A5 → A6 → Prop) (hs : ∀ (m : Nat) (a1 : A1) (a2 : A2) (a3 : A3) (a4 : A4) (a5 : A5) (a6 : A6), I m a1 a2 a3 a4 a5 a6 → (∀ k, body k a1 a2 a3 a4 a5 a6 = E) ∨ ∃ (m' : Nat) (b1 : A1) (b2 : A2) (b3 : A3) (b4 : A4) (b5 : A5) (b6 : A6), m' < m ∧ I m' b1 b2 b3 b4 b5 b6 ∧ ∀ k, body k a1 a2 a3 a4 a5 a6 = k b1 b2 b3 b4 b5 b6) : ∀ (n m : Nat) (a1 : A1) (a2 : A2) (a3 : A3) (a4 : A4) (a5 : A5) (a6 : A6), I m a1 a2 a3 a4 a5 a6 → m < n → jl_loop6 body n a1 a2 a3 a4 a5 a6 = E := by
  intro n
  induction n with
  | zero => intro m a1 a2 a3 a4 a5 a6 _ h; exact absurd h (Nat.not_lt_zero m)
  | succ n ih =>
    intro m a1 a2 a3 a4 a5 a6 hI hm
    rw [jl_loop6_s]
    rcases hs m a1 a2 a3 a4 a5 a6 hI with h | ⟨m', b1, b2, b3, b4, b5, b6, h1, h2, h3⟩
    · exact h _
    · rw [h3]; exact ih m' b1 b2 b3 b4 b5 b6 h2 (by omega)
theorem jl_run7 {A1 A2 A3 A4 A5 A6 A7 R : Type} {body : (A1 → A2 → A3 → A4 → A5 → A6 → A7 → Option R) → A1 → A2 → A3 → A4 → A5 → A6 → A7 → Option R} {E : Option R} (I : Nat → A1 → A2 → A3 → A4 → A5 → A6 → A7 → Prop) (hs : ∀ (m : Nat) (a1 : A1) (a2 : A2) (a3 : A3) (a4 : A4) (a5 : A5) (a6 : A6) (a7 : A7), I m a1 a2 a3 a4 a5 a6 a7 → (∀ k, body k a1 a2 a3 a4 a5 a6 a7 = E) ∨ ∃ (m' : Nat) (b1 : A1) (b2 : A2) (b3 : A3) (b4 : A4) (b5 : A5) (b6 : A6) (b7 : A7), m' < m ∧ I m' b1 b2 b3 b4 b5 b6 b7 ∧ ∀ k, body k a1 a2 a3 a4 a5 a6 a7 = k b1 b2 b3 b4 b5 b6 b7) : ∀ (n m : Nat) (a1 : A1) (a2 : A2) (a3 : A3) (a4 : A4) (a5 : A5) (a6 : A6) (a7 : A7), I m a1 a2 a3 a4 a5 a6 a7 → m < n → jl_loop7 body n a1 a2 a3 a4 a5 a6 a7 = E := by
  intro n
  induction n with
  | zero => intro m a1 a2 a3 a4 a5 a6 a7 _ h; exact absurd h (Nat.not_lt_zero m)
  | succ n ih =>
    intro m a1 a2 a3 a4 a5 a6 a7 hI hm
    rw [jl_loop7_s]
    rcases hs m a1 a2 a3 a4 a5 a6 a7 hI with h | ⟨m', b1, b2, b3, b4, b5, b6, b7, h1, h2, h3⟩
    · exact h _
    · rw [h3]; exact ih m' b1 b2 b3 b4 b5 b6 b7 h2 (by omega)
theorem jl_run8 {A1 A2 A3 A4 A5 A6 A7 A8 R : Type} {body : (A1 → A2 → A3 → A4 → A5 → A6 → A7 → A8 → Option R) → A1 → A2 → A3 → A4 → A5 → A6 → A7 → A8 → Option R} {E : Option R} (I : Nat → A1 → A2 → A3 → A4 → A5 → A6 → A7 → A8 → Prop) (hs : ∀ (m : Nat) (a1 : A1) (a2 : A2) (a3 : A3) (a4 : A4) (a5 : A5) (a6 : A6) (a7 : A7) (a8 : A8), I m a1 a2 a3 a4 a5 a6 a7 a8 → (∀ k, body k a1 a2 a3 a4 a5 a6 a7 a8 = E) ∨ ∃ (m' : Nat) (b1 : A1) (b2 : A2) (b3 : A3) (b4 : A4) (b5 : A5) (b6 : A6) (b7 : A7) (b8 : A8), m' < m ∧ I m' b1 b2 b3 b4 b5 b6 b7 b8 ∧ ∀ k, body k a1 a2 a3 a4 a5 a6 a7 a8 = k b1 b2 b3 b4 b5 b6 b7 b8) : ∀ (n m : Nat) (a1 : A1) (a2 : A2) (a3 : A3) (a4 : A4) (a5 : A5) (a6 : A6) (a7 : A7) (a8 : A8), I m a1 a2 a3 a4 a5 a6 a7 a8 → m < n → jl_loop8 body n a1 a2 a3 a4 a5 a6 a7 a8 = E := by
  intro n
  induction n with
  | zero => intro m a1 a2 a3 a4 a5 a6 a7 a8 _ h; exact absurd h (Nat.not_lt_zero m)
  | succ n ih =>
    intro m a1 a2 a3 a4 a5 a6 a7 a8 hI hm
    rw [jl_loop8_s]
    rcases hs m a1 a2 a3 a4 a5 a6 a7 a8 hI with h | ⟨m', b1, b2, b3, b4, b5, b6, b7, b8, h1, h2, h3⟩
    · exact h _
    · rw [h3]; exact ih m' b1 b2 b3 b4 b5 b6 b7 b8 h2 (by omega)
theorem jl_run9 {A1 A2 A3 A4 A5 A6 A7 A8 A9 R : Type} {body : (A1 → A2 → A3 → A4 → A5 → A6 → A7 → A8 → A9 → Option R) → A1 → A2 → A3 → A4 → A5 → A6 → A7 → A8 → A9 → Option R} {E : Option R} (I : Nat → A1 → A2 → A3 → A4 → A5 → A6 → A7 → A8 → A9 → Prop) (hs : ∀ (m : Nat) (a1 : A1) (a2 : A2) (a3 : A3) (a4 : A4) (a5 : A5) (a6 : A6) (a7 : A7) (a8 : A8) (a9 : A9), I m a1 a2 a3 a4 a5 a6 a7 a8 a9 → (∀ k, body k a1 a2 a3 a4 a5 a6 a7 a8 a9 = E) ∨ ∃ (m' : Nat) (b1 : A1) (b2 : A2) (b3 : A3) (b4 : A4) (b5 : A5) (b6 : A6) (b7 : A7) (b8 : A8) (b9 : A9), m' < m ∧ I m' b1 b2 b3 b4 b5 b6 b7 b8 b9 ∧ ∀ k, body k a1 a2 a3 a4 a5 a6 a7 a8 a9 = k b1 b2 b3 b4 b5 b6 b7 b8 b9) : ∀ (n m : Nat) (a1 : A1) (a2 : A2) (a3 : A3) (a4 : A4) (a5 : A5) (a6 : A6) (a7 : A7) (a8 : A8) (a9 : A9), I m a1 a2 a3 a4 a5 a6 a7 a8 a9 → m < n → jl_loop9 body n a1 a2 a3 a4 a5 a6 a7 a8 a9 = E := by
  intro n
  induction n with
  | zero => intro m a1 a2 a3 a4 a5 a6 a7 a8 a9 _ h; exact absurd h (Nat.not_lt_zero m)
  | succ n ih =>
    intro m a1 a2 a3 a4 a5 a6 a7 a8 a9 hI hm
    rw [jl_loop9_s]
    rcases hs m a1 a2 a3 a4 a5 a6 a7 a8 a9 hI with h | ⟨m', b1, b2, b3, b4, b5, b6, b7, b8, b9, h1, h2, h3⟩
    · exact h _
    · rw [h3]; exact ih m' b1 b2 b3 b4 b5 b6 b7 b8 b9 h2 (by omega)
theorem jl_run10 {A1 A2 A3 A4 A5 A6 A7 A8 A9 A10 R : Type} {body : (A1 → A2 → A3 → A4 → A5 → A6 → A7 → A8 → A9 → A10 → Option R) → A1 → A2 → A3 → A4 → A5 → A6 → A7 → A8 → A9 → A10 → Option R} {E : Option R} (I : Nat → A1 → A2 → A3 → A4 → A5 → A6 → A7 → A8 → A9 → A10 → Prop) (hs : ∀ (m : Nat) (a1 : A1) (a2 : A2) (a3 : A3) (a4 : A4) (a5 : A5) (a6 : A6) (a7 : A7) (a8 : A8) (a9 : A9) (a10 : A10), I m a1 a2 a3 a4 a5 a6 a7 a8 a9 a10 → (∀ k, body k a1 a2 a3 a4 a5 a6 a7 a8 a9 a10 = E) ∨ ∃ (m' : Nat) (b1 : A1) (b2 : A2) (b3 : A3) (b4 : A4) (b5 : A5) (b6 : A6) (b7 : A7) (b8 : A8) (b9 : A9) (b10 : A10), m' < m ∧ I m' b1 b2 b3 b4 b5 b6 b7 b8 b9 b10 ∧ ∀ k, body k a1 a2 a3 a4 a5 a6 a7 a8 a9 a10 = k b1 b2 b3 b4 b5 b6 b7 b8 b9 b10) : ∀ (n m : Nat) (a1 : A1) (a2 : A2) (a3 : A3) (a4 : A4) (a5 : A5) (a6 : A6) (a7 : A7) (a8 : A8) (a9 : A9) (a10 : A10), I m a1 a2 a3 a4 a5 a6 a7 a8 a9 a10 → m < n → jl_loop10 body n a1 a2 a3 a4 a5 a6 a7 a8 a9 a10 = E := by
  intro n
  induction n with
  | zero => intro m a1 a2 a3 a4 a5 a6 a7 a8 a9 a10 _ h; exact absurd h (Nat.not_lt_zero m)
  | succ n ih =>
    intro m a1 a2 a3 a4 a5 a6 a7 a8 a9 a10 hI hm
    rw [jl_loop10_s]
    rcases hs m a1 a2 a3 a4 a5 a6 a7 a8 a9 a10 hI with h | ⟨m', b1, b2, b3, b4, b5, b6, b7, b8, b9, b10, h1, h2, h3⟩
    · exact h _
    · rw [h3]; exact ih m' b1 b2 b3 b4 b5 b6 b7 b8 b9 b10 h2 (by omega)
theorem jl_run11 {A1 A2 A3 A4 A5 A6 A7 A8 A9 A10 A11 R : Type} {body : (A1 → A2 → A3 → A4 → A5 → A6 → A7 → A8 → A9 → A10 → A11 → Option R) → A1 → A2 → A3 → A4 → A5 → A6 → A7 → A8 → A9 → A10 → A11 → Option R} {E : Option R} (I : Nat → A1 → A2 → A3 → A4 → A5 → A6 → A7 → A8 → A9 → A10 → A11 → Prop) (hs : ∀ (m : Nat) (a1 : A1) (a2 : A2) (a3 : A3) (a4 : A4) (a5 : A5) (a6 : A6) (a7 : A7) (a8 : A8) (a9 : A9) (a10 : A10) (a11 : A11), I m a1 a2 a3 a4 a5 a6 a7 a8 a9 a10 a11 → (∀ k, body k a1 a2 a3 a4 a5 a6 a7 a8 a9 a10 a11 = E) ∨ ∃ (m' : Nat) (b1 : A1) (b2 : A2) (b3 : A3) (b4 : A4) (b5 : A5) (b6 : A6) (b7 : A7) (b8 : A8) (b9 : A9) (b10 : A10) (b11 : A11), m' < m ∧ I m' b1 b2 b3 b4 b5 b6 b7 b8 b9 b10 b11 ∧ ∀ k, body k a1 a2 a3 a4 a5 a6 a7 a8 a9 a10 a11 = k b1 b2 b3 b4 b5 b6 b7 b8 b9 b10 b11) : ∀ (n m : Nat) (a1 : A1) (a2 : A2) (a3 : A3) (a4 : A4) (a5 : A5) (a6 : A6) (a7 : A7) (a8 : A8) (a9 : A9) (a10 : A10) (a11 : A11), I m a1 a2 a3 a4 a5 a6 a7 a8 a9 a10 a11 → m < n → jl_loop11 body n a1 a2 a3 a4 a5 a6 a7 a8 a9 a10 a11 = E := by
  intro n
  induction n with
  | zero => intro m a1 a2 a3 a4 a5 a6 a7 a8 a9 a10 a11 _ h; exact absurd h (Nat.not_lt_zero m)
  | succ n ih =>
    intro m a1 a2 a3 a4 a5 a6 a7 a8 a9 a10 a11 hI hm
    rw [jl_loop11_s]
    rcases hs m a1 a2 a3 a4 a5 a6 a7 a8 a9 a10 a11 hI with h | ⟨m', b1, b2, b3, b4, b5, b6, b7, b8, b9, b10, b11, h1, h2, h3⟩
    · exact h _
    · rw [h3]; exact ih m' b1 b2 b3 b4 b5 b6 b7 b8 b9 b10 b11 h2 (by omega)
theorem jl_run12 {A1 A2 A3 A4 A5 A6 A7 A8 A9 A10 A11 A12 R : Type} {body : (A1 → A2 → A3 → A4 → A5 → A6 → A7 → A8 → A9 → A10 → A11 → A12 → Option R) → A1 → A2 → A3 → A4 → A5 → A6 → A7 → A8 → A9 → A10 → A11 → A12 → Option R} {E : Option R} (I : Nat → A1 → A2 → A3 → A4 → A5 → A6 → A7 → A8 → A9 → A10 → A11 → A12 → Prop) (hs : ∀ (m : Nat) (a1 : A1) (a2 : A2) (a3 : A3) (a4 : A4) (a5 : A5) (a6 : A6) (a7 : A7) (a8 : A8) (a9 : A9) (a10 : A10) (a11 : A11) (a12 : A12), I m a1 a2 a3 a4 a5 a6 a7 a8 a9 a10 a11 a12 → (∀ k, body k a1 a2 a3 a4 a5 a6 a7 a8 a9 a10 a11 a12 = E) ∨ ∃ (m' : Nat) (b1 : A1) (b2 : A2) (b3 : A3) (b4 : A4) (b5 : A5) (b6 : A6) (b7 : A7) (b8 : A8) (b9 : A9) (b10 : A10) (b11 : A11) (b12 : A12), m' < m ∧ I m' b1 b2 b3 b4 b5 b6 b7 b8 b9 b10 b11 b12 ∧ ∀ k, body k a1 a2 a3 a4 a5 a6 a7 a8 a9 a10 a11 a12 = k b1 b2 b3 b4 b5 b6 b7 b8 b9 b10 b11 b12) : ∀ (n m : Nat) (a1 : A1) (a2 : A2) (a3 : A3) (a4 : A4) (a5 : A5) (a6 : A6) (a7 : A7) (a8 : A8) (a9 : A9) (a10 : A10) (a11 : A11) (a12 : A12), I m a1 a2 a3 a4 a5 a6 a7 a8 a9 a10 a11 a12 → m < n → jl_loop12 body n a1 a2 a3 a4 a5 a6 a7 a8 a9 a10 a11 a12 = E := by
  intro n
  induction n with
  | zero => intro m a1 a2 a3 a4 a5 a6 a7 a8 a9 a10 a11 a12 _ h; exact absurd h (Nat.not_lt_zero m)
  | succ n ih =>
    intro m a1 a2 a3 a4 a5 a6 a7 a8 a9 a10 a11 a12 hI hm
    rw [jl_loop12_s]
    rcases hs m a1 a2 a3 a4 a5 a6 a7 a8 a9 a10 a11 a12 hI with h | ⟨m', b1, b2, b3, b4, b5, b6, b7, b8, b9, b10, b11, b12, h1, h2, h3⟩
    · exact h _
    · rw [h3]; exact ih m' b1 b2 b3 b4 b5 b6 b7 b8 b9 b10 b11 b12 h2 (by omega)
theorem jl_run13 {A1 A2 A3 A4 A5 A6 A7 A8 A9 A10 A11 A12 A13 R : Type} {body : (A1 → A2 → A3 → A4 → A5 → A6 → A7 → A8 → A9 → A10 → A11 → A12 → A13 → Option R) → A1 → A2 → A3 → A4 → A5 → A6 → A7 → A8 → A9 → A10 → A11 → A12 → A13 → Option R} {E : Option R} (I : Nat → A1 → A2 → A3 → A4 → A5 → A6 → A7 → A8 → A9 → A10 → A11 → A12 → A13 → Prop) (hs : ∀ (m : Nat) (a1 : A1) (a2 : A2) (a3 : A3) (a4 : A4) (a5 : A5) (a6 : A6) (a7 : A7) (a8 : A8) (a9 : A9) (a10 : A10) (a11 : A11) (a12 : A12) (a13 : A13), I m a1 a2 a3 a4 a5 a6 a7 a8 a9 a10 a11 a12 a13 → (∀ k, body k a1 a2 a3 a4 a5 a6 a7 a8 a9 a10 a11 a12 a13 = E) ∨ ∃ (m' : Nat) (b1 : A1) (b2 : A2) (b3 : A3) (b4 : A4) (b5 : A5) (b6 : A6) (b7 : A7) (b8 : A8) (b9 : A9) (b10 : A10) (b11 : A11) (b12 : A12) (b13 : A13), m' < m ∧ I m' b1 b2 b3 b4 b5 b6 b7 b8 b9 b10 b11 b12 b13 ∧ ∀ k, body k a1 a2 a3 a4 a5 a6 a7 a8 a9 a10 a11 a12 a13 = k b1 b2 b3 b4 b5 b6 b7 b8 b9 b10 b11 b12 b13) : ∀ (n m : Nat) (a1 : A1) (a2 : A2) (a3 : A3) (a4 : A4) (a5 : A5) (a6 : A6) (a7 : A7) (a8 : A8) (a9 : A9) (a10 : A10) (a11 : A11) (a12 : A12) (a13 : A13), I m a1 a2 a3 a4 a5 a6 a7 a8 a9 a10 a11 a12 a13 → m < n → jl_loop13 body n a1 a2 a3 a4 a5 a6 a7 a8 a9 a10 a11 a12 a13 = E := by
  intro n
  induction n with
  | zero => intro m a1 a2 a3 a4 a5 a6 a7 a8 a9 a10 a11 a12 a13 _ h; exact absurd h (Nat.not_lt_zero m)
  | succ n ih =>
    intro m a1 a2 a3 a4 a5 a6 a7 a8 a9 a10 a11 a12 a13 hI hm
    rw [jl_loop13_s]
    rcases hs m a1 a2 a3 a4 a5 a6 a7 a8 a9 a10 a11 a12 a13 hI with h | ⟨m', b1, b2, b3, b4, b5, b6, b7, b8, b9, b10, b11, b12, b13, h1, h2, h3⟩
    · exact h _
    · rw [h3]; exact ih m' b1 b2 b3 b4 b5 b6 b7 b8 b9 b10 b11 b12 b13 h2 (by omega)
theorem jl_run14 {A1 A2 A3 A4 A5 A6 A7 A8 A9 A10 A11 A12 A13 A14 R : Type} {body : (A1 → A2 → A3 → A4 → A5 → A6 → A7 → A8 → A9 → A10 → A11 → A12 → A13 → A14 → Option R) → A1 → A2 → A3 → A4 → A5 → A6 → A7 → A8 → A9 → A10 → A11 → A12 → A13 → A14 → Option R} {E : Option R} (I : Nat → A1 → A2 → A3 → A4 → A5 → A6 → A7 → A8 → A9 → A10 → A11 → A12 → A13 → A14 → Prop) (hs : ∀ (m : Nat) (a1 : A1) (a2 : A2) (a3 : A3) (a4 : A4) (a5 : A5) (a6 : A6) (a7 : A7) (a8 : A8) (a9 : A9) (a10 : A10) (a11 : A11) (a12 : A12) (a13 : A13) (a14 : A14), I m a1 a2 a3 a4 a5 a6 a7 a8 a9 a10 a11 a12 a13 a14 → (∀ k, body k a1 a2 a3 a4 a5 a6 a7 a8 a9 a10 a11 a12 a13 a14 = E) ∨ ∃ (m' : Nat) (b1 : A1) (b2 : A2) (b3 : A3) (b4 : A4) (b5 : A5) (b6 : A6) (b7 : A7) (b8 : A8) (b9 : A9) (b10 : A10) (b11 : A11) (b12 : A12) (b13 : A13) (b14 : A14), m' < m ∧ I m' b1 b2 b3 b4 b5 b6 b7 b8 b9 b10 b11 b12 b13 b14 ∧ ∀ k, body k a1 a2 a3 a4 a5 a6 a7 a8 a9 a10 a11 a12 a13 a14 = k b1 b2 b3 b4 b5 b6 b7 b8 b9 b10 b11 b12 b13 b14) : ∀ (n m : Nat) (a1 : A1) (a2 : A2) (a3 : A3) (a4 : A4) (a5 : A5) (a6 : A6) (a7 : A7) (a8 : A8) (a9 : A9) (a10 : A10) (a11 : A11) (a12 : A12) (a13 : A13) (a14 : A14), I m a1 a2 a3 a4 a5 a6 a7 a8 a9 a10 a11 a12 a13 a14 → m < n → jl_loop14 body n a1 a2 a3 a4 a5 a6 a7 a8 a9 a10 a11 a12 a13 a14 = E := by
  intro n
  induction n with
  | zero => intro m a1 a2 a3 a4 a5 a6 a7 a8 a9 a10 a11 a12 a13 a14 _ h; exact absurd h (Nat.not_lt_zero m)
  | succ n ih =>
    intro m a1 a2 a3 a4 a5 a6 a7 a8 a9 a10 a11 a12 a13 a14 hI hm
    rw [jl_loop14_s]
    rcases hs m a1 a2 a3 a4 a5 a6 a7 a8 a9 a10 a11 a12 a13 a14 hI with h | ⟨m', b1, b2, b3, b4, b5, b6, b7, b8, b9, b10, b11, b12, b13, b14, h1, h2, h3⟩
    · exact h _
    · rw [h3]; exact ih m' b1 b2 b3 b4 b5 b6 b7 b8 b9 b10 b11 b12 b13 b14 h2 (by omega)
theorem jl_let_eq {α β : Type} (v : α) (k : α → β) : jl_let v k = k v := rfl
theorem ni_m1 : (-1 : Int32) = -nI 1 := rfl
theorem ni_of1 : Int32.ofInt 1 = nI 1 := rfl
theorem ni_ofm1 : Int32.ofInt (-1) = -nI 1 := rfl
theorem ni_addm1 (n : Nat) : nI (n + 1) + -nI 1 = nI n := pk_m1 n
theorem ni_ge0 {n : Nat} (h : n < 2 ^ 31) : (nI n < nI 0) = False := by
  apply eq_false; exact fun q => absurd q (nI_nlt (Nat.zero_le n) h)
theorem ni_lt {a b : Nat} (ha : a < 2 ^ 31) (hb : b < 2 ^ 31) : (nI a < nI b) = (a < b) := propext (nI_ltI ha hb)
theorem ni_le {a b : Nat} (ha : a < 2 ^ 31) (hb : b < 2 ^ 31) : (nI a ≤ nI b) = (a ≤ b) := propext (nI_leI ha hb)
theorem ni_eq {a b : Nat} (ha : a < 2 ^ 31) (hb : b < 2 ^ 31) : (nI a = nI b) = (a = b) := propext (nI_eq ha hb)
theorem ni_l {n : Nat} (h : n < 2 ^ 31) : (nI n).toInt64 = lN n := nI_l h
theorem ln_lt {a b : Nat} (ha : a < 2 ^ 63) (hb : b < 2 ^ 63) : (lN a < lN b) = (a < b) := propext (pk_lLT ha hb)
theorem ln_le {a b : Nat} (ha : a < 2 ^ 63) (hb : b < 2 ^ 63) : (lN a ≤ lN b) = (a ≤ b) := propext (pk_lLE ha hb)
theorem ln_eq {a b : Nat} (ha : a < 2 ^ 63) (hb : b < 2 ^ 63) : (lN a = lN b) = (a = b) := propext (pk_lEQ ha hb)
theorem upd_s {f : Nat → Int32} {k j : Nat} {x : Int32} (h : j = k) : upd f k x j = x := by subst h; exact pk_us
theorem upd_n {f : Nat → Int32} {k j : Nat} {x : Int32} (h : j ≠ k) : upd f k x j = f j := pk_un h

