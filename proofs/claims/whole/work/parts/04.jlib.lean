/-! A judgement over worlds: JJ D X nL k n pc lv st ws : from every heap that holds the world ws, with the locals lv, the stack st, the machine at pc comes to its end. -/
section JL
abbrev jv_D : Type := va_G × ClassId × ClassId × ClassId × ClassId
abbrev jI (D : jv_D) (n : Nat) (f : Nat → Int32) : va_E := .inl (D.2.1, n, .inl f)
abbrev jJ (D : jv_D) (n : Nat) (f : Nat → Int64) : va_E := .inl (D.2.2.1, n, .inr (.inl f))
abbrev jB (D : jv_D) (n : Nat) (f : Nat → Int32) : va_E := .inl (D.2.2.2.1, n, .inl f)
abbrev jZ (D : jv_D) (n : Nat) (f : Nat → Int32) : va_E := .inl (D.2.2.2.2, n, .inl f)
abbrev jtys (D : jv_D) : List (ClassId × FieldType) := [(D.2.1, .int), (D.2.2.1, .long), (D.2.2.2.1, .byte), (D.2.2.2.2, .boolean)]
abbrev jv_X : Type := Program × Launch × Env × Room × State × MethodId × Array Value × List Frame × Method × Code × (Nat → Prop) × (State → Prop)
def JJ (D : jv_D) (X : jv_X) (nL k n pc : Nat) (lv : List (Nat × Value)) (st : List Value) (ws : va_W) : Prop := match X with
  | (p, l, e, R, s, m, args, below, meth, c, A, Q) => ∀ (H : Heap) (locs : List Loc) (ls : Array Slot), va_P D.1 vwCl ws H → va_D A ws → va_S A s.heap H locs → lv_has ls nL lv → W p l e R s m args below meth c H locs k n Q (F0 m pc ls st)
def JC (D : jv_D) (X : jv_X) (nL : Nat) (own : String) (cc : ByteArray) (rm : Room) : Prop := match X with
  | (p, _, _, R, s, m, args, _, meth, c, A, _) => p.tables.exec = Jvm.exec ∧ c.code = cc ∧ c.maxLocals = nL ∧ s.vm.findClass own = some m.cls ∧ (∀ w ∈ BIG, w.before args s = true) ∧ va_K D.1 vwCl (jtys D) s ∧ (∀ q : Nat, s.heap.size ≤ q → A q) ∧ meth.locks = false ∧ R = rm ∧ jNW s
/-- what a method answers with: the outcome, the world behind it, one of a family -/
def jQ {S : Type} (rt : S → Option Value) (D : jv_D) (wf : S → va_W) (A : Nat → Prop) : Array Value → State → Outcome → State → Prop := fun _ st oc t => (∃ u : S, oc = .returned (rt u) ∧ va_P D.1 vwCl (wf u) t.heap ∧ va_K D.1 vwCl (jtys D) t ∧ va_D A (wf u)) ∧ va_F A st t
/-- the end of a method -/
def JE {S : Type} (D : jv_D) (X : jv_X) (k n : Nat) (rty : Option FieldType) (rt : S → Option Value) (wf : S → va_W) : Prop := match X with
  | (_, _, _, _, s, _, args, below, meth, _, A, Q) => meth.sig.returnType = rty ∧ Q = MQ below (jQ rt D wf A) args s k n A
/-- a method's contract over worlds: from the world ws it answers as rt says, the world is wf behind it -/
def MN {S : Type} (l : Launch) (y : MethodName) (words : List Cond) (rm : Room) (D : jv_D) (av : List Value) (ws : va_W) (k n : Nat) (rt : S → Option Value) (wf : S → va_W) : Prop :=
  ∀ sz : Nat, Met l y words rm (va_Pc av (fun U => U.heap.size = sz ∧ va_P D.1 vwCl ws U.heap ∧ va_K D.1 vwCl (jtys D) U ∧ va_D (fun _ => True) ws ∧ jNW U)) (jQ rt D wf (va_A ws sz)) k n (va_A ws sz)
abbrev MM (l : Launch) (y : MethodName) (words : List Cond) (rm : Room) (D : jv_D) (av : List Value) (ws : va_W) (rt : Option Value) (wf : va_W) : Prop := MN l y words rm D av ws 0 0 (fun _ : Unit => rt) (fun _ : Unit => wf)
def jlaunch (X : jv_X) : Launch := X.2.1
def jl_let {α β : Type} (v : α) (k : α → β) : β := k v
theorem jl_bind {α β : Type} {o : Option α} {k : α → Option β} {r : β} (h : o.bind k = some r) : ∃ a, o = some a ∧ k a = some r := by
  cases o with
  | none => cases h
  | some a => exact ⟨a, rfl, h⟩
theorem jl_ite {α : Type} {c : Prop} {inst : Decidable c} {A B : Option α} {r : α} {G : Prop} (h : @ite (Option α) c inst A B = some r) (kt : c → A = some r → G) (kf : ¬ c → B = some r → G) : G := by
  by_cases hc : c
  · rw [if_pos hc] at h; exact kt hc h
  · rw [if_neg hc] at h; exact kf hc h
theorem jl_inb {α : Type} {i : Int32} {n : Nat} {inst : Decidable (i < 0 ∨ n ≤ i.toNatClampNeg)} {B : Option α} {r : α} {G : Prop} (h : @ite (Option α) (i < 0 ∨ n ≤ i.toNatClampNeg) inst none B = some r) (kf : vp_in i n → B = some r → G) : G := by
  by_cases hc : (i < 0 ∨ n ≤ i.toNatClampNeg)
  · rw [if_pos hc] at h; cases h
  · rw [if_neg hc] at h; exact kf hc h
theorem jl_grd {α : Type} {c : Prop} {inst : Decidable c} {B : Option α} {r : α} {G : Prop} (h : @ite (Option α) c inst none B = some r) (kf : ¬ c → B = some r → G) : G := by
  by_cases hc : c
  · rw [if_pos hc] at h; cases h
  · rw [if_neg hc] at h; exact kf hc h
theorem jl_some {α : Type} {a r : α} (h : some a = some r) : r = a := (Option.some.inj h).symm
/-- a loop: its body with what comes at the next turn -/
def jl_loop {S R : Type} (body : (S → Option R) → S → Option R) : Nat → S → Option R
  | 0, _ => none
  | n + 1, s => body (jl_loop body n) s
theorem jl_loop_s {S R : Type} (body : (S → Option R) → S → Option R) (n : Nat) (s : S) : jl_loop body (n + 1) s = body (jl_loop body n) s := rfl
theorem jl_ind {S R : Type} {body : (S → Option R) → S → Option R} {r : R} (P : S → Prop) (hb : ∀ (k : S → Option R), (∀ s, k s = some r → P s) → ∀ s, body k s = some r → P s) : ∀ (n : Nat) (s : S), jl_loop body n s = some r → P s := by
  intro n
  induction n with
  | zero => intro s h; cases h
  | succ n ih => intro s h; exact hb _ ih s h
variable {D : jv_D} {X : jv_X} {nL k n pc : Nat} {own : String} {cc : ByteArray} {rm : Room} {lv lv' : List (Nat × Value)} {st : List Value} {ws : va_W}
/-- fewer locals, in another order -/
theorem j_sub {lv' : List (Nat × Value)} (ks : List Nat) (hl : lv_pick lv ks = lv') (K : JJ D X nL k n pc lv' st ws) : JJ D X nL k n pc lv st ws := by
  obtain ⟨p, l, e, R, s, m, args, below, meth, c, A, Q⟩ := X
  intro H locs ls hP hD hS h
  exact K H locs ls hP hD hS (lv_sub h ks hl)
theorem j_widen {k' n' : Nat} (hk : k ≤ k') (hn : n ≤ n') (K : JJ D X nL k' n' pc lv st ws) : JJ D X nL k n pc lv st ws := by
  obtain ⟨p, l, e, R, s, m, args, below, meth, c, A, Q⟩ := X
  intro H locs ls hP hD hS h
  exact W.widen hk hn (K H locs ls hP hD hS h)

theorem j_iconst (C : JC D X nL own cc rm) {z : Int} {v : Int32} (hdg : decode cc pc = .ok (.iconst z, 1)) (hv : Int32.ofInt z = v) (K : JJ D X nL k n (pc + 1) lv (.int v :: st) ws) : JJ D X nL k n pc lv st ws := by
  obtain ⟨p, l, e, R, s, m, args, below, meth, c, A, Q⟩ := X
  obtain ⟨hx, hb, hml, hown, hts, hK, hA, hlk, hR, hNW⟩ := C
  intro H locs ls hP hD hS h
  exact lv_iconst hx hb hdg hv (K H locs ls hP hD hS h)
theorem j_bipush (C : JC D X nL own cc rm) {z : Int} {v : Int32} (hdg : decode cc pc = .ok (.bipush z, 2)) (hv : (Int8.ofInt z).toInt32 = v) (K : JJ D X nL k n (pc + 2) lv (.int v :: st) ws) : JJ D X nL k n pc lv st ws := by
  obtain ⟨p, l, e, R, s, m, args, below, meth, c, A, Q⟩ := X
  obtain ⟨hx, hb, hml, hown, hts, hK, hA, hlk, hR, hNW⟩ := C
  intro H locs ls hP hD hS h
  exact lv_bipush hx hb hdg hv (K H locs ls hP hD hS h)
theorem j_sipush (C : JC D X nL own cc rm) {z : Int} {v : Int32} (hdg : decode cc pc = .ok (.sipush z, 3)) (hv : (Int16.ofInt z).toInt32 = v) (K : JJ D X nL k n (pc + 3) lv (.int v :: st) ws) : JJ D X nL k n pc lv st ws := by
  obtain ⟨p, l, e, R, s, m, args, below, meth, c, A, Q⟩ := X
  obtain ⟨hx, hb, hml, hown, hts, hK, hA, hlk, hR, hNW⟩ := C
  intro H locs ls hP hD hS h
  exact lv_sipush hx hb hdg hv (K H locs ls hP hD hS h)
theorem j_lconst (C : JC D X nL own cc rm) {z : Fin 2} {v : Int64} (hdg : decode cc pc = .ok (.lconst z, 1)) (hv : Int64.ofNat (z : Nat) = v) (K : JJ D X nL k n (pc + 1) lv (.long v :: st) ws) : JJ D X nL k n pc lv st ws := by
  obtain ⟨p, l, e, R, s, m, args, below, meth, c, A, Q⟩ := X
  obtain ⟨hx, hb, hml, hown, hts, hK, hA, hlk, hR, hNW⟩ := C
  intro H locs ls hP hD hS h
  exact lv_lconst hx hb hdg hv (K H locs ls hP hD hS h)
theorem j_ldc (C : JC D X nL own cc rm) {i : Nat} {v : Int32} (hw : Cond.constant own i v ∈ BIG) (hdg : decode cc pc = .ok (.ldc i, 2)) (K : JJ D X nL k n (pc + 2) lv (.int v :: st) ws) : JJ D X nL k n pc lv st ws := by
  obtain ⟨p, l, e, R, s, m, args, below, meth, c, A, Q⟩ := X
  obtain ⟨hx, hb, hml, hown, hts, hK, hA, hlk, hR, hNW⟩ := C
  intro H locs ls hP hD hS h
  exact lv_ldc hx hb hown (hts _ hw) hdg (K H locs ls hP hD hS h)
theorem j_ldc_w (C : JC D X nL own cc rm) {i : Nat} {v : Int32} (hw : Cond.constant own i v ∈ BIG) (hdg : decode cc pc = .ok (.ldc_w i, 3)) (K : JJ D X nL k n (pc + 3) lv (.int v :: st) ws) : JJ D X nL k n pc lv st ws := by
  obtain ⟨p, l, e, R, s, m, args, below, meth, c, A, Q⟩ := X
  obtain ⟨hx, hb, hml, hown, hts, hK, hA, hlk, hR, hNW⟩ := C
  intro H locs ls hP hD hS h
  exact lv_ldcw hx hb hown (hts _ hw) hdg (K H locs ls hP hD hS h)
theorem j_ldc2_w (C : JC D X nL own cc rm) {i : Nat} {v : Int64} (hw : Cond.constantLong own i v ∈ BIG) (hdg : decode cc pc = .ok (.ldc2_w i, 3)) (K : JJ D X nL k n (pc + 3) lv (.long v :: st) ws) : JJ D X nL k n pc lv st ws := by
  obtain ⟨p, l, e, R, s, m, args, below, meth, c, A, Q⟩ := X
  obtain ⟨hx, hb, hml, hown, hts, hK, hA, hlk, hR, hNW⟩ := C
  intro H locs ls hP hD hS h
  exact lv_ldc2 hx hb hown (hts _ hw) hdg (K H locs ls hP hD hS h)
theorem j_iload_n (C : JC D X nL own cc rm) {f : Fin 4} {i : Nat} {x : Int32} (hdg : decode cc pc = .ok (.iload_n f, 1)) (hi : (f : Nat) = i) (q : Nat) (hl : lv[q]? = some (i, .int x)) (K : JJ D X nL k n (pc + 1) lv (.int x :: st) ws) : JJ D X nL k n pc lv st ws := by
  obtain ⟨p, l, e, R, s, m, args, below, meth, c, A, Q⟩ := X
  obtain ⟨hx, hb, hml, hown, hts, hK, hA, hlk, hR, hNW⟩ := C
  intro H locs ls hP hD hS h
  exact lv_iload_n hx hb hdg hi (lv_at h q hl) (K H locs ls hP hD hS h)
theorem j_iload (C : JC D X nL own cc rm) {i : Nat} {x : Int32} (hdg : decode cc pc = .ok (.iload i, 2)) (q : Nat) (hl : lv[q]? = some (i, .int x)) (K : JJ D X nL k n (pc + 2) lv (.int x :: st) ws) : JJ D X nL k n pc lv st ws := by
  obtain ⟨p, l, e, R, s, m, args, below, meth, c, A, Q⟩ := X
  obtain ⟨hx, hb, hml, hown, hts, hK, hA, hlk, hR, hNW⟩ := C
  intro H locs ls hP hD hS h
  exact lv_iload hx hb hdg (lv_at h q hl) (K H locs ls hP hD hS h)
theorem j_lload_n (C : JC D X nL own cc rm) {f : Fin 4} {i : Nat} {x : Int64} (hdg : decode cc pc = .ok (.lload_n f, 1)) (hi : (f : Nat) = i) (q : Nat) (hl : lv[q]? = some (i, .long x)) (K : JJ D X nL k n (pc + 1) lv (.long x :: st) ws) : JJ D X nL k n pc lv st ws := by
  obtain ⟨p, l, e, R, s, m, args, below, meth, c, A, Q⟩ := X
  obtain ⟨hx, hb, hml, hown, hts, hK, hA, hlk, hR, hNW⟩ := C
  intro H locs ls hP hD hS h
  exact lv_lload_n hx hb hdg hi (lv_at h q hl) (K H locs ls hP hD hS h)
theorem j_lload (C : JC D X nL own cc rm) {i : Nat} {x : Int64} (hdg : decode cc pc = .ok (.lload i, 2)) (q : Nat) (hl : lv[q]? = some (i, .long x)) (K : JJ D X nL k n (pc + 2) lv (.long x :: st) ws) : JJ D X nL k n pc lv st ws := by
  obtain ⟨p, l, e, R, s, m, args, below, meth, c, A, Q⟩ := X
  obtain ⟨hx, hb, hml, hown, hts, hK, hA, hlk, hR, hNW⟩ := C
  intro H locs ls hP hD hS h
  exact lv_lload hx hb hdg (lv_at h q hl) (K H locs ls hP hD hS h)
theorem j_aload_n (C : JC D X nL own cc rm) {f : Fin 4} {i : Nat} {x : Nat} (hdg : decode cc pc = .ok (.aload_n f, 1)) (hi : (f : Nat) = i) (q : Nat) (hl : lv[q]? = some (i, .ref x)) (K : JJ D X nL k n (pc + 1) lv (.ref x :: st) ws) : JJ D X nL k n pc lv st ws := by
  obtain ⟨p, l, e, R, s, m, args, below, meth, c, A, Q⟩ := X
  obtain ⟨hx, hb, hml, hown, hts, hK, hA, hlk, hR, hNW⟩ := C
  intro H locs ls hP hD hS h
  exact lv_aload_n hx hb hdg hi (lv_at h q hl) (K H locs ls hP hD hS h)
theorem j_aload (C : JC D X nL own cc rm) {i : Nat} {x : Nat} (hdg : decode cc pc = .ok (.aload i, 2)) (q : Nat) (hl : lv[q]? = some (i, .ref x)) (K : JJ D X nL k n (pc + 2) lv (.ref x :: st) ws) : JJ D X nL k n pc lv st ws := by
  obtain ⟨p, l, e, R, s, m, args, below, meth, c, A, Q⟩ := X
  obtain ⟨hx, hb, hml, hown, hts, hK, hA, hlk, hR, hNW⟩ := C
  intro H locs ls hP hD hS h
  exact lv_aload hx hb hdg (lv_at h q hl) (K H locs ls hP hD hS h)
theorem j_iadd (C : JC D X nL own cc rm) {x y : Int32} (hdg : decode cc pc = .ok (.iadd, 1)) (K : JJ D X nL k n (pc + 1) lv (.int (x + y) :: st) ws) : JJ D X nL k n pc lv (.int y :: .int x :: st) ws := by
  obtain ⟨p, l, e, R, s, m, args, below, meth, c, A, Q⟩ := X
  obtain ⟨hx, hb, hml, hown, hts, hK, hA, hlk, hR, hNW⟩ := C
  intro H locs ls hP hD hS h
  exact lv_iadd hx hb hdg (K H locs ls hP hD hS h)
theorem j_isub (C : JC D X nL own cc rm) {x y : Int32} (hdg : decode cc pc = .ok (.isub, 1)) (K : JJ D X nL k n (pc + 1) lv (.int (x - y) :: st) ws) : JJ D X nL k n pc lv (.int y :: .int x :: st) ws := by
  obtain ⟨p, l, e, R, s, m, args, below, meth, c, A, Q⟩ := X
  obtain ⟨hx, hb, hml, hown, hts, hK, hA, hlk, hR, hNW⟩ := C
  intro H locs ls hP hD hS h
  exact lv_isub hx hb hdg (K H locs ls hP hD hS h)
theorem j_imul (C : JC D X nL own cc rm) {x y : Int32} (hdg : decode cc pc = .ok (.imul, 1)) (K : JJ D X nL k n (pc + 1) lv (.int (x * y) :: st) ws) : JJ D X nL k n pc lv (.int y :: .int x :: st) ws := by
  obtain ⟨p, l, e, R, s, m, args, below, meth, c, A, Q⟩ := X
  obtain ⟨hx, hb, hml, hown, hts, hK, hA, hlk, hR, hNW⟩ := C
  intro H locs ls hP hD hS h
  exact lv_imul hx hb hdg (K H locs ls hP hD hS h)
theorem j_iand (C : JC D X nL own cc rm) {x y : Int32} (hdg : decode cc pc = .ok (.iand, 1)) (K : JJ D X nL k n (pc + 1) lv (.int (x &&& y) :: st) ws) : JJ D X nL k n pc lv (.int y :: .int x :: st) ws := by
  obtain ⟨p, l, e, R, s, m, args, below, meth, c, A, Q⟩ := X
  obtain ⟨hx, hb, hml, hown, hts, hK, hA, hlk, hR, hNW⟩ := C
  intro H locs ls hP hD hS h
  exact lv_iand hx hb hdg (K H locs ls hP hD hS h)
theorem j_ior (C : JC D X nL own cc rm) {x y : Int32} (hdg : decode cc pc = .ok (.ior, 1)) (K : JJ D X nL k n (pc + 1) lv (.int (x ||| y) :: st) ws) : JJ D X nL k n pc lv (.int y :: .int x :: st) ws := by
  obtain ⟨p, l, e, R, s, m, args, below, meth, c, A, Q⟩ := X
  obtain ⟨hx, hb, hml, hown, hts, hK, hA, hlk, hR, hNW⟩ := C
  intro H locs ls hP hD hS h
  exact lv_ior hx hb hdg (K H locs ls hP hD hS h)
theorem j_ixor (C : JC D X nL own cc rm) {x y : Int32} (hdg : decode cc pc = .ok (.ixor, 1)) (K : JJ D X nL k n (pc + 1) lv (.int (x ^^^ y) :: st) ws) : JJ D X nL k n pc lv (.int y :: .int x :: st) ws := by
  obtain ⟨p, l, e, R, s, m, args, below, meth, c, A, Q⟩ := X
  obtain ⟨hx, hb, hml, hown, hts, hK, hA, hlk, hR, hNW⟩ := C
  intro H locs ls hP hD hS h
  exact lv_ixor hx hb hdg (K H locs ls hP hD hS h)
theorem j_ladd (C : JC D X nL own cc rm) {x y : Int64} (hdg : decode cc pc = .ok (.ladd, 1)) (K : JJ D X nL k n (pc + 1) lv (.long (x + y) :: st) ws) : JJ D X nL k n pc lv (.long y :: .long x :: st) ws := by
  obtain ⟨p, l, e, R, s, m, args, below, meth, c, A, Q⟩ := X
  obtain ⟨hx, hb, hml, hown, hts, hK, hA, hlk, hR, hNW⟩ := C
  intro H locs ls hP hD hS h
  exact lv_ladd hx hb hdg (K H locs ls hP hD hS h)
theorem j_lsub (C : JC D X nL own cc rm) {x y : Int64} (hdg : decode cc pc = .ok (.lsub, 1)) (K : JJ D X nL k n (pc + 1) lv (.long (x - y) :: st) ws) : JJ D X nL k n pc lv (.long y :: .long x :: st) ws := by
  obtain ⟨p, l, e, R, s, m, args, below, meth, c, A, Q⟩ := X
  obtain ⟨hx, hb, hml, hown, hts, hK, hA, hlk, hR, hNW⟩ := C
  intro H locs ls hP hD hS h
  exact lv_lsub hx hb hdg (K H locs ls hP hD hS h)
theorem j_lmul (C : JC D X nL own cc rm) {x y : Int64} (hdg : decode cc pc = .ok (.lmul, 1)) (K : JJ D X nL k n (pc + 1) lv (.long (x * y) :: st) ws) : JJ D X nL k n pc lv (.long y :: .long x :: st) ws := by
  obtain ⟨p, l, e, R, s, m, args, below, meth, c, A, Q⟩ := X
  obtain ⟨hx, hb, hml, hown, hts, hK, hA, hlk, hR, hNW⟩ := C
  intro H locs ls hP hD hS h
  exact lv_lmul hx hb hdg (K H locs ls hP hD hS h)
theorem j_land (C : JC D X nL own cc rm) {x y : Int64} (hdg : decode cc pc = .ok (.land, 1)) (K : JJ D X nL k n (pc + 1) lv (.long (x &&& y) :: st) ws) : JJ D X nL k n pc lv (.long y :: .long x :: st) ws := by
  obtain ⟨p, l, e, R, s, m, args, below, meth, c, A, Q⟩ := X
  obtain ⟨hx, hb, hml, hown, hts, hK, hA, hlk, hR, hNW⟩ := C
  intro H locs ls hP hD hS h
  exact lv_land hx hb hdg (K H locs ls hP hD hS h)
theorem j_lor (C : JC D X nL own cc rm) {x y : Int64} (hdg : decode cc pc = .ok (.lor, 1)) (K : JJ D X nL k n (pc + 1) lv (.long (x ||| y) :: st) ws) : JJ D X nL k n pc lv (.long y :: .long x :: st) ws := by
  obtain ⟨p, l, e, R, s, m, args, below, meth, c, A, Q⟩ := X
  obtain ⟨hx, hb, hml, hown, hts, hK, hA, hlk, hR, hNW⟩ := C
  intro H locs ls hP hD hS h
  exact lv_lor hx hb hdg (K H locs ls hP hD hS h)
theorem j_lxor (C : JC D X nL own cc rm) {x y : Int64} (hdg : decode cc pc = .ok (.lxor, 1)) (K : JJ D X nL k n (pc + 1) lv (.long (x ^^^ y) :: st) ws) : JJ D X nL k n pc lv (.long y :: .long x :: st) ws := by
  obtain ⟨p, l, e, R, s, m, args, below, meth, c, A, Q⟩ := X
  obtain ⟨hx, hb, hml, hown, hts, hK, hA, hlk, hR, hNW⟩ := C
  intro H locs ls hP hD hS h
  exact lv_lxor hx hb hdg (K H locs ls hP hD hS h)
theorem j_idiv (C : JC D X nL own cc rm) {x y : Int32} (hdg : decode cc pc = .ok (.idiv, 1)) (hne : ¬ y = 0) (K : JJ D X nL k n (pc + 1) lv (.int (x / y) :: st) ws) : JJ D X nL k n pc lv (.int y :: .int x :: st) ws := by
  obtain ⟨p, l, e, R, s, m, args, below, meth, c, A, Q⟩ := X
  obtain ⟨hx, hb, hml, hown, hts, hK, hA, hlk, hR, hNW⟩ := C
  intro H locs ls hP hD hS h
  exact lv_idiv hx hb hdg hne (K H locs ls hP hD hS h)
theorem j_irem (C : JC D X nL own cc rm) {x y : Int32} (hdg : decode cc pc = .ok (.irem, 1)) (hne : ¬ y = 0) (K : JJ D X nL k n (pc + 1) lv (.int (x - x / y * y) :: st) ws) : JJ D X nL k n pc lv (.int y :: .int x :: st) ws := by
  obtain ⟨p, l, e, R, s, m, args, below, meth, c, A, Q⟩ := X
  obtain ⟨hx, hb, hml, hown, hts, hK, hA, hlk, hR, hNW⟩ := C
  intro H locs ls hP hD hS h
  exact lv_irem hx hb hdg hne (K H locs ls hP hD hS h)
theorem j_ldiv (C : JC D X nL own cc rm) {x y : Int64} (hdg : decode cc pc = .ok (.ldiv, 1)) (hne : ¬ y = 0) (K : JJ D X nL k n (pc + 1) lv (.long (x / y) :: st) ws) : JJ D X nL k n pc lv (.long y :: .long x :: st) ws := by
  obtain ⟨p, l, e, R, s, m, args, below, meth, c, A, Q⟩ := X
  obtain ⟨hx, hb, hml, hown, hts, hK, hA, hlk, hR, hNW⟩ := C
  intro H locs ls hP hD hS h
  exact lv_ldiv hx hb hdg hne (K H locs ls hP hD hS h)
theorem j_lrem (C : JC D X nL own cc rm) {x y : Int64} (hdg : decode cc pc = .ok (.lrem, 1)) (hne : ¬ y = 0) (K : JJ D X nL k n (pc + 1) lv (.long (x - x / y * y) :: st) ws) : JJ D X nL k n pc lv (.long y :: .long x :: st) ws := by
  obtain ⟨p, l, e, R, s, m, args, below, meth, c, A, Q⟩ := X
  obtain ⟨hx, hb, hml, hown, hts, hK, hA, hlk, hR, hNW⟩ := C
  intro H locs ls hP hD hS h
  exact lv_lrem hx hb hdg hne (K H locs ls hP hD hS h)
theorem j_ishl (C : JC D X nL own cc rm) {x y : Int32} (hdg : decode cc pc = .ok (.ishl, 1)) (K : JJ D X nL k n (pc + 1) lv (.int (x <<< (y &&& 31)) :: st) ws) : JJ D X nL k n pc lv (.int y :: .int x :: st) ws := by
  obtain ⟨p, l, e, R, s, m, args, below, meth, c, A, Q⟩ := X
  obtain ⟨hx, hb, hml, hown, hts, hK, hA, hlk, hR, hNW⟩ := C
  intro H locs ls hP hD hS h
  exact lv_ishl hx hb hdg (K H locs ls hP hD hS h)
theorem j_ishr (C : JC D X nL own cc rm) {x y : Int32} (hdg : decode cc pc = .ok (.ishr, 1)) (K : JJ D X nL k n (pc + 1) lv (.int (x >>> (y &&& 31)) :: st) ws) : JJ D X nL k n pc lv (.int y :: .int x :: st) ws := by
  obtain ⟨p, l, e, R, s, m, args, below, meth, c, A, Q⟩ := X
  obtain ⟨hx, hb, hml, hown, hts, hK, hA, hlk, hR, hNW⟩ := C
  intro H locs ls hP hD hS h
  exact lv_ishr hx hb hdg (K H locs ls hP hD hS h)
theorem j_ineg (C : JC D X nL own cc rm) {x : Int32} (hdg : decode cc pc = .ok (.ineg, 1)) (K : JJ D X nL k n (pc + 1) lv (.int (-x) :: st) ws) : JJ D X nL k n pc lv (.int x :: st) ws := by
  obtain ⟨p, l, e, R, s, m, args, below, meth, c, A, Q⟩ := X
  obtain ⟨hx, hb, hml, hown, hts, hK, hA, hlk, hR, hNW⟩ := C
  intro H locs ls hP hD hS h
  exact lv_ineg hx hb hdg (K H locs ls hP hD hS h)
theorem j_iushr (C : JC D X nL own cc rm) {x y : Int32} (hdg : decode cc pc = .ok (.iushr, 1)) (K : JJ D X nL k n (pc + 1) lv (.int ((x.toUInt32 >>> (y.toUInt32 &&& Int32.toUInt32 31)).toInt32) :: st) ws) : JJ D X nL k n pc lv (.int y :: .int x :: st) ws := by
  obtain ⟨p, l, e, R, s, m, args, below, meth, c, A, Q⟩ := X
  obtain ⟨hx, hb, hml, hown, hts, hK, hA, hlk, hR, hNW⟩ := C
  intro H locs ls hP hD hS h
  exact lv_iushr hx hb hdg rfl (K H locs ls hP hD hS h)
theorem j_lushr (C : JC D X nL own cc rm) {x : Int64} {y : Int32} (hdg : decode cc pc = .ok (.lushr, 1)) (K : JJ D X nL k n (pc + 1) lv (.long ((x.toUInt64 >>> (y.toInt64.toUInt64 &&& Int64.toUInt64 63)).toInt64) :: st) ws) : JJ D X nL k n pc lv (.int y :: .long x :: st) ws := by
  obtain ⟨p, l, e, R, s, m, args, below, meth, c, A, Q⟩ := X
  obtain ⟨hx, hb, hml, hown, hts, hK, hA, hlk, hR, hNW⟩ := C
  intro H locs ls hP hD hS h
  exact lv_lushr hx hb hdg rfl (K H locs ls hP hD hS h)
theorem j_lshl (C : JC D X nL own cc rm) {x : Int64} {y : Int32} (hdg : decode cc pc = .ok (.lshl, 1)) (K : JJ D X nL k n (pc + 1) lv (.long (x <<< (y.toInt64 &&& 63)) :: st) ws) : JJ D X nL k n pc lv (.int y :: .long x :: st) ws := by
  obtain ⟨p, l, e, R, s, m, args, below, meth, c, A, Q⟩ := X
  obtain ⟨hx, hb, hml, hown, hts, hK, hA, hlk, hR, hNW⟩ := C
  intro H locs ls hP hD hS h
  exact lv_lshl hx hb hdg rfl (K H locs ls hP hD hS h)
theorem j_lshr (C : JC D X nL own cc rm) {x : Int64} {y : Int32} (hdg : decode cc pc = .ok (.lshr, 1)) (K : JJ D X nL k n (pc + 1) lv (.long (x >>> (y.toInt64 &&& 63)) :: st) ws) : JJ D X nL k n pc lv (.int y :: .long x :: st) ws := by
  obtain ⟨p, l, e, R, s, m, args, below, meth, c, A, Q⟩ := X
  obtain ⟨hx, hb, hml, hown, hts, hK, hA, hlk, hR, hNW⟩ := C
  intro H locs ls hP hD hS h
  exact lv_lshr hx hb hdg rfl (K H locs ls hP hD hS h)
theorem j_i2l (C : JC D X nL own cc rm) {x : Int32} (hdg : decode cc pc = .ok (.i2l, 1)) (K : JJ D X nL k n (pc + 1) lv (.long x.toInt64 :: st) ws) : JJ D X nL k n pc lv (.int x :: st) ws := by
  obtain ⟨p, l, e, R, s, m, args, below, meth, c, A, Q⟩ := X
  obtain ⟨hx, hb, hml, hown, hts, hK, hA, hlk, hR, hNW⟩ := C
  intro H locs ls hP hD hS h
  exact lv_i2l hx hb hdg rfl (K H locs ls hP hD hS h)
theorem j_l2i (C : JC D X nL own cc rm) {x : Int64} (hdg : decode cc pc = .ok (.l2i, 1)) (K : JJ D X nL k n (pc + 1) lv (.int x.toInt32 :: st) ws) : JJ D X nL k n pc lv (.long x :: st) ws := by
  obtain ⟨p, l, e, R, s, m, args, below, meth, c, A, Q⟩ := X
  obtain ⟨hx, hb, hml, hown, hts, hK, hA, hlk, hR, hNW⟩ := C
  intro H locs ls hP hD hS h
  exact lv_l2i hx hb hdg rfl (K H locs ls hP hD hS h)
theorem j_i2b (C : JC D X nL own cc rm) {x : Int32} (hdg : decode cc pc = .ok (.i2b, 1)) (K : JJ D X nL k n (pc + 1) lv (.int x.toInt8.toInt32 :: st) ws) : JJ D X nL k n pc lv (.int x :: st) ws := by
  obtain ⟨p, l, e, R, s, m, args, below, meth, c, A, Q⟩ := X
  obtain ⟨hx, hb, hml, hown, hts, hK, hA, hlk, hR, hNW⟩ := C
  intro H locs ls hP hD hS h
  exact lv_i2b hx hb hdg rfl (K H locs ls hP hD hS h)
theorem j_dup (C : JC D X nL own cc rm) {v : Value} (hdg : decode cc pc = .ok (.dup, 1)) (hv : v.category = 1) (K : JJ D X nL k n (pc + 1) lv (v :: v :: st) ws) : JJ D X nL k n pc lv (v :: st) ws := by
  obtain ⟨p, l, e, R, s, m, args, below, meth, c, A, Q⟩ := X
  obtain ⟨hx, hb, hml, hown, hts, hK, hA, hlk, hR, hNW⟩ := C
  intro H locs ls hP hD hS h
  exact lv_dup hx hb hdg hv (K H locs ls hP hD hS h)
theorem j_pop (C : JC D X nL own cc rm) {v : Value} (hdg : decode cc pc = .ok (.pop, 1)) (hv : v.category = 1) (K : JJ D X nL k n (pc + 1) lv st ws) : JJ D X nL k n pc lv (v :: st) ws := by
  obtain ⟨p, l, e, R, s, m, args, below, meth, c, A, Q⟩ := X
  obtain ⟨hx, hb, hml, hown, hts, hK, hA, hlk, hR, hNW⟩ := C
  intro H locs ls hP hD hS h
  exact lv_pop hx hb hdg hv (K H locs ls hP hD hS h)
theorem j_dup_x1 (C : JC D X nL own cc rm) {v u : Value} (hdg : decode cc pc = .ok (.dup_x1, 1)) (hv : v.category = 1) (hu : u.category = 1) (K : JJ D X nL k n (pc + 1) lv (v :: u :: v :: st) ws) : JJ D X nL k n pc lv (v :: u :: st) ws := by
  obtain ⟨p, l, e, R, s, m, args, below, meth, c, A, Q⟩ := X
  obtain ⟨hx, hb, hml, hown, hts, hK, hA, hlk, hR, hNW⟩ := C
  intro H locs ls hP hD hS h
  exact lv_dup_x1 hx hb hdg hv hu (K H locs ls hP hD hS h)
theorem j_dup2_11 (C : JC D X nL own cc rm) {v u : Value} (hdg : decode cc pc = .ok (.dup2, 1)) (hv : v.category = 1) (hu : u.category = 1) (K : JJ D X nL k n (pc + 1) lv (v :: u :: v :: u :: st) ws) : JJ D X nL k n pc lv (v :: u :: st) ws := by
  obtain ⟨p, l, e, R, s, m, args, below, meth, c, A, Q⟩ := X
  obtain ⟨hx, hb, hml, hown, hts, hK, hA, hlk, hR, hNW⟩ := C
  intro H locs ls hP hD hS h
  exact lv_dup2_11 hx hb hdg hv hu (K H locs ls hP hD hS h)
theorem j_goto (C : JC D X nL own cc rm) {off : Int} {tgt : Nat} (hdg : decode cc pc = .ok (.goto off, 3)) (ht : (pc : Int) + off = (tgt : Int)) (K : JJ D X nL k n tgt lv st ws) : JJ D X nL k n pc lv st ws := by
  obtain ⟨p, l, e, R, s, m, args, below, meth, c, A, Q⟩ := X
  obtain ⟨hx, hb, hml, hown, hts, hK, hA, hlk, hR, hNW⟩ := C
  intro H locs ls hP hD hS h
  exact lv_goto hx hb hdg ht (K H locs ls hP hD hS h)
theorem j_if_eq (C : JC D X nL own cc rm) {x : Int32} {off : Int} {tgt : Nat} {α : Type} {inst : Decidable (x = 0)} {P1 P2 : Option α} {r : α} (hdg : decode cc pc = .ok (.ifCond .eq off, 3)) (ht : (pc : Int) + off = (tgt : Int)) (he : @ite (Option α) (x = 0) inst P1 P2 = some r) (kt : x = 0 → P1 = some r → JJ D X nL k n tgt lv st ws) (kf : ¬ (x = 0) → P2 = some r → JJ D X nL k n (pc + 3) lv st ws) : JJ D X nL k n pc lv (.int x :: st) ws := by
  obtain ⟨p, l, e, R, s, m, args, below, meth, c, A, Q⟩ := X
  obtain ⟨hx, hb, hml, hown, hts, hK, hA, hlk, hR, hNW⟩ := C
  intro H locs ls hP hD hS h
  exact lv_if_eq hx hb hdg ht (fun cq => kt cq (by first | rw [if_pos cq] at he; exact he | rw [if_neg cq] at he; exact he) H locs ls hP hD hS h) (fun cq => kf cq (by first | rw [if_neg cq] at he; exact he | rw [if_pos cq] at he; exact he) H locs ls hP hD hS h)
theorem j_if_ne (C : JC D X nL own cc rm) {x : Int32} {off : Int} {tgt : Nat} {α : Type} {inst : Decidable (x = 0)} {P1 P2 : Option α} {r : α} (hdg : decode cc pc = .ok (.ifCond .ne off, 3)) (ht : (pc : Int) + off = (tgt : Int)) (he : @ite (Option α) (x = 0) inst P1 P2 = some r) (kf : x = 0 → P1 = some r → JJ D X nL k n (pc + 3) lv st ws) (kt : ¬ (x = 0) → P2 = some r → JJ D X nL k n tgt lv st ws) : JJ D X nL k n pc lv (.int x :: st) ws := by
  obtain ⟨p, l, e, R, s, m, args, below, meth, c, A, Q⟩ := X
  obtain ⟨hx, hb, hml, hown, hts, hK, hA, hlk, hR, hNW⟩ := C
  intro H locs ls hP hD hS h
  exact lv_if_ne hx hb hdg ht (fun cq => kt cq (by first | rw [if_pos cq] at he; exact he | rw [if_neg cq] at he; exact he) H locs ls hP hD hS h) (fun cq => kf cq (by first | rw [if_neg cq] at he; exact he | rw [if_pos cq] at he; exact he) H locs ls hP hD hS h)
theorem j_if_lt (C : JC D X nL own cc rm) {x : Int32} {off : Int} {tgt : Nat} {α : Type} {inst : Decidable (x < 0)} {P1 P2 : Option α} {r : α} (hdg : decode cc pc = .ok (.ifCond .lt off, 3)) (ht : (pc : Int) + off = (tgt : Int)) (he : @ite (Option α) (x < 0) inst P1 P2 = some r) (kt : x < 0 → P1 = some r → JJ D X nL k n tgt lv st ws) (kf : ¬ (x < 0) → P2 = some r → JJ D X nL k n (pc + 3) lv st ws) : JJ D X nL k n pc lv (.int x :: st) ws := by
  obtain ⟨p, l, e, R, s, m, args, below, meth, c, A, Q⟩ := X
  obtain ⟨hx, hb, hml, hown, hts, hK, hA, hlk, hR, hNW⟩ := C
  intro H locs ls hP hD hS h
  exact lv_if_lt hx hb hdg ht (fun cq => kt cq (by first | rw [if_pos cq] at he; exact he | rw [if_neg cq] at he; exact he) H locs ls hP hD hS h) (fun cq => kf cq (by first | rw [if_neg cq] at he; exact he | rw [if_pos cq] at he; exact he) H locs ls hP hD hS h)
theorem j_if_ge (C : JC D X nL own cc rm) {x : Int32} {off : Int} {tgt : Nat} {α : Type} {inst : Decidable (0 ≤ x)} {P1 P2 : Option α} {r : α} (hdg : decode cc pc = .ok (.ifCond .ge off, 3)) (ht : (pc : Int) + off = (tgt : Int)) (he : @ite (Option α) (0 ≤ x) inst P1 P2 = some r) (kt : 0 ≤ x → P1 = some r → JJ D X nL k n tgt lv st ws) (kf : ¬ (0 ≤ x) → P2 = some r → JJ D X nL k n (pc + 3) lv st ws) : JJ D X nL k n pc lv (.int x :: st) ws := by
  obtain ⟨p, l, e, R, s, m, args, below, meth, c, A, Q⟩ := X
  obtain ⟨hx, hb, hml, hown, hts, hK, hA, hlk, hR, hNW⟩ := C
  intro H locs ls hP hD hS h
  exact lv_if_ge hx hb hdg ht (fun cq => kt cq (by first | rw [if_pos cq] at he; exact he | rw [if_neg cq] at he; exact he) H locs ls hP hD hS h) (fun cq => kf cq (by first | rw [if_neg cq] at he; exact he | rw [if_pos cq] at he; exact he) H locs ls hP hD hS h)
theorem j_if_gt (C : JC D X nL own cc rm) {x : Int32} {off : Int} {tgt : Nat} {α : Type} {inst : Decidable (0 < x)} {P1 P2 : Option α} {r : α} (hdg : decode cc pc = .ok (.ifCond .gt off, 3)) (ht : (pc : Int) + off = (tgt : Int)) (he : @ite (Option α) (0 < x) inst P1 P2 = some r) (kt : 0 < x → P1 = some r → JJ D X nL k n tgt lv st ws) (kf : ¬ (0 < x) → P2 = some r → JJ D X nL k n (pc + 3) lv st ws) : JJ D X nL k n pc lv (.int x :: st) ws := by
  obtain ⟨p, l, e, R, s, m, args, below, meth, c, A, Q⟩ := X
  obtain ⟨hx, hb, hml, hown, hts, hK, hA, hlk, hR, hNW⟩ := C
  intro H locs ls hP hD hS h
  exact lv_if_gt hx hb hdg ht (fun cq => kt cq (by first | rw [if_pos cq] at he; exact he | rw [if_neg cq] at he; exact he) H locs ls hP hD hS h) (fun cq => kf cq (by first | rw [if_neg cq] at he; exact he | rw [if_pos cq] at he; exact he) H locs ls hP hD hS h)
theorem j_if_le (C : JC D X nL own cc rm) {x : Int32} {off : Int} {tgt : Nat} {α : Type} {inst : Decidable (x ≤ 0)} {P1 P2 : Option α} {r : α} (hdg : decode cc pc = .ok (.ifCond .le off, 3)) (ht : (pc : Int) + off = (tgt : Int)) (he : @ite (Option α) (x ≤ 0) inst P1 P2 = some r) (kt : x ≤ 0 → P1 = some r → JJ D X nL k n tgt lv st ws) (kf : ¬ (x ≤ 0) → P2 = some r → JJ D X nL k n (pc + 3) lv st ws) : JJ D X nL k n pc lv (.int x :: st) ws := by
  obtain ⟨p, l, e, R, s, m, args, below, meth, c, A, Q⟩ := X
  obtain ⟨hx, hb, hml, hown, hts, hK, hA, hlk, hR, hNW⟩ := C
  intro H locs ls hP hD hS h
  exact lv_if_le hx hb hdg ht (fun cq => kt cq (by first | rw [if_pos cq] at he; exact he | rw [if_neg cq] at he; exact he) H locs ls hP hD hS h) (fun cq => kf cq (by first | rw [if_neg cq] at he; exact he | rw [if_pos cq] at he; exact he) H locs ls hP hD hS h)
theorem j_icmp_eq (C : JC D X nL own cc rm) {x y : Int32} {off : Int} {tgt : Nat} {α : Type} {inst : Decidable (x = y)} {P1 P2 : Option α} {r : α} (hdg : decode cc pc = .ok (.if_icmp .eq off, 3)) (ht : (pc : Int) + off = (tgt : Int)) (he : @ite (Option α) (x = y) inst P1 P2 = some r) (kt : x = y → P1 = some r → JJ D X nL k n tgt lv st ws) (kf : ¬ (x = y) → P2 = some r → JJ D X nL k n (pc + 3) lv st ws) : JJ D X nL k n pc lv (.int y :: .int x :: st) ws := by
  obtain ⟨p, l, e, R, s, m, args, below, meth, c, A, Q⟩ := X
  obtain ⟨hx, hb, hml, hown, hts, hK, hA, hlk, hR, hNW⟩ := C
  intro H locs ls hP hD hS h
  exact lv_icmp_eq hx hb hdg ht (fun cq => kt cq (by first | rw [if_pos cq] at he; exact he | rw [if_neg cq] at he; exact he) H locs ls hP hD hS h) (fun cq => kf cq (by first | rw [if_neg cq] at he; exact he | rw [if_pos cq] at he; exact he) H locs ls hP hD hS h)
theorem j_icmp_ne (C : JC D X nL own cc rm) {x y : Int32} {off : Int} {tgt : Nat} {α : Type} {inst : Decidable (x = y)} {P1 P2 : Option α} {r : α} (hdg : decode cc pc = .ok (.if_icmp .ne off, 3)) (ht : (pc : Int) + off = (tgt : Int)) (he : @ite (Option α) (x = y) inst P1 P2 = some r) (kf : x = y → P1 = some r → JJ D X nL k n (pc + 3) lv st ws) (kt : ¬ (x = y) → P2 = some r → JJ D X nL k n tgt lv st ws) : JJ D X nL k n pc lv (.int y :: .int x :: st) ws := by
  obtain ⟨p, l, e, R, s, m, args, below, meth, c, A, Q⟩ := X
  obtain ⟨hx, hb, hml, hown, hts, hK, hA, hlk, hR, hNW⟩ := C
  intro H locs ls hP hD hS h
  exact lv_icmp_ne hx hb hdg ht (fun cq => kt cq (by first | rw [if_pos cq] at he; exact he | rw [if_neg cq] at he; exact he) H locs ls hP hD hS h) (fun cq => kf cq (by first | rw [if_neg cq] at he; exact he | rw [if_pos cq] at he; exact he) H locs ls hP hD hS h)
theorem j_icmp_lt (C : JC D X nL own cc rm) {x y : Int32} {off : Int} {tgt : Nat} {α : Type} {inst : Decidable (x < y)} {P1 P2 : Option α} {r : α} (hdg : decode cc pc = .ok (.if_icmp .lt off, 3)) (ht : (pc : Int) + off = (tgt : Int)) (he : @ite (Option α) (x < y) inst P1 P2 = some r) (kt : x < y → P1 = some r → JJ D X nL k n tgt lv st ws) (kf : ¬ (x < y) → P2 = some r → JJ D X nL k n (pc + 3) lv st ws) : JJ D X nL k n pc lv (.int y :: .int x :: st) ws := by
  obtain ⟨p, l, e, R, s, m, args, below, meth, c, A, Q⟩ := X
  obtain ⟨hx, hb, hml, hown, hts, hK, hA, hlk, hR, hNW⟩ := C
  intro H locs ls hP hD hS h
  exact lv_icmp_lt hx hb hdg ht (fun cq => kt cq (by first | rw [if_pos cq] at he; exact he | rw [if_neg cq] at he; exact he) H locs ls hP hD hS h) (fun cq => kf cq (by first | rw [if_neg cq] at he; exact he | rw [if_pos cq] at he; exact he) H locs ls hP hD hS h)
theorem j_icmp_ge (C : JC D X nL own cc rm) {x y : Int32} {off : Int} {tgt : Nat} {α : Type} {inst : Decidable (y ≤ x)} {P1 P2 : Option α} {r : α} (hdg : decode cc pc = .ok (.if_icmp .ge off, 3)) (ht : (pc : Int) + off = (tgt : Int)) (he : @ite (Option α) (y ≤ x) inst P1 P2 = some r) (kt : y ≤ x → P1 = some r → JJ D X nL k n tgt lv st ws) (kf : ¬ (y ≤ x) → P2 = some r → JJ D X nL k n (pc + 3) lv st ws) : JJ D X nL k n pc lv (.int y :: .int x :: st) ws := by
  obtain ⟨p, l, e, R, s, m, args, below, meth, c, A, Q⟩ := X
  obtain ⟨hx, hb, hml, hown, hts, hK, hA, hlk, hR, hNW⟩ := C
  intro H locs ls hP hD hS h
  exact lv_icmp_ge hx hb hdg ht (fun cq => kt cq (by first | rw [if_pos cq] at he; exact he | rw [if_neg cq] at he; exact he) H locs ls hP hD hS h) (fun cq => kf cq (by first | rw [if_neg cq] at he; exact he | rw [if_pos cq] at he; exact he) H locs ls hP hD hS h)
theorem j_icmp_gt (C : JC D X nL own cc rm) {x y : Int32} {off : Int} {tgt : Nat} {α : Type} {inst : Decidable (y < x)} {P1 P2 : Option α} {r : α} (hdg : decode cc pc = .ok (.if_icmp .gt off, 3)) (ht : (pc : Int) + off = (tgt : Int)) (he : @ite (Option α) (y < x) inst P1 P2 = some r) (kt : y < x → P1 = some r → JJ D X nL k n tgt lv st ws) (kf : ¬ (y < x) → P2 = some r → JJ D X nL k n (pc + 3) lv st ws) : JJ D X nL k n pc lv (.int y :: .int x :: st) ws := by
  obtain ⟨p, l, e, R, s, m, args, below, meth, c, A, Q⟩ := X
  obtain ⟨hx, hb, hml, hown, hts, hK, hA, hlk, hR, hNW⟩ := C
  intro H locs ls hP hD hS h
  exact lv_icmp_gt hx hb hdg ht (fun cq => kt cq (by first | rw [if_pos cq] at he; exact he | rw [if_neg cq] at he; exact he) H locs ls hP hD hS h) (fun cq => kf cq (by first | rw [if_neg cq] at he; exact he | rw [if_pos cq] at he; exact he) H locs ls hP hD hS h)
theorem j_icmp_le (C : JC D X nL own cc rm) {x y : Int32} {off : Int} {tgt : Nat} {α : Type} {inst : Decidable (x ≤ y)} {P1 P2 : Option α} {r : α} (hdg : decode cc pc = .ok (.if_icmp .le off, 3)) (ht : (pc : Int) + off = (tgt : Int)) (he : @ite (Option α) (x ≤ y) inst P1 P2 = some r) (kt : x ≤ y → P1 = some r → JJ D X nL k n tgt lv st ws) (kf : ¬ (x ≤ y) → P2 = some r → JJ D X nL k n (pc + 3) lv st ws) : JJ D X nL k n pc lv (.int y :: .int x :: st) ws := by
  obtain ⟨p, l, e, R, s, m, args, below, meth, c, A, Q⟩ := X
  obtain ⟨hx, hb, hml, hown, hts, hK, hA, hlk, hR, hNW⟩ := C
  intro H locs ls hP hD hS h
  exact lv_icmp_le hx hb hdg ht (fun cq => kt cq (by first | rw [if_pos cq] at he; exact he | rw [if_neg cq] at he; exact he) H locs ls hP hD hS h) (fun cq => kf cq (by first | rw [if_neg cq] at he; exact he | rw [if_pos cq] at he; exact he) H locs ls hP hD hS h)

theorem j_istore_n (C : JC D X nL own cc rm) {f : Fin 4} {i : Nat} {v : Int32} {lv' : Int32 → List (Nat × Value)} {α : Type} {F : Int32 → Option α} {r : α} (hdg : decode cc pc = .ok (.istore_n f, 1)) (hi : (f : Nat) = i) (hn : i < nL) (hl : ∀ x : Int32, (i, Value.int x) :: lv.filter (fun q => !(q.1 == i) && !(q.1 + 1 == i && q.2.category == 2)) = lv' x) (he : jl_let v F = some r) (K : ∀ x : Int32, F x = some r → JJ D X nL k n (pc + 1) (lv' x) st ws) : JJ D X nL k n pc lv (.int v :: st) ws := by
  obtain ⟨p, l, e, R, s, m, args, below, meth, c, A, Q⟩ := X
  obtain ⟨hx, hb, hml, hown, hts, hK, hA, hlk, hR, hNW⟩ := C
  intro H locs ls hP hD hS h
  exact lv_istore_n hx hb hdg hi h hn (hl v) (fun ls2 h2 => K v he H locs ls2 hP hD hS h2)
theorem j_istore (C : JC D X nL own cc rm) {i : Nat} {v : Int32} {lv' : Int32 → List (Nat × Value)} {α : Type} {F : Int32 → Option α} {r : α} (hdg : decode cc pc = .ok (.istore i, 2)) (hn : i < nL) (hl : ∀ x : Int32, (i, Value.int x) :: lv.filter (fun q => !(q.1 == i) && !(q.1 + 1 == i && q.2.category == 2)) = lv' x) (he : jl_let v F = some r) (K : ∀ x : Int32, F x = some r → JJ D X nL k n (pc + 2) (lv' x) st ws) : JJ D X nL k n pc lv (.int v :: st) ws := by
  obtain ⟨p, l, e, R, s, m, args, below, meth, c, A, Q⟩ := X
  obtain ⟨hx, hb, hml, hown, hts, hK, hA, hlk, hR, hNW⟩ := C
  intro H locs ls hP hD hS h
  exact lv_istore hx hb hdg h hn (hl v) (fun ls2 h2 => K v he H locs ls2 hP hD hS h2)
theorem j_lstore_n (C : JC D X nL own cc rm) {f : Fin 4} {i : Nat} {v : Int64} {lv' : Int64 → List (Nat × Value)} {α : Type} {F : Int64 → Option α} {r : α} (hdg : decode cc pc = .ok (.lstore_n f, 1)) (hi : (f : Nat) = i) (hn : i + 1 < nL) (hl : ∀ x : Int64, (i, Value.long x) :: lv.filter (fun q => !(q.1 == i) && (!(q.1 == i + 1) && !(q.1 + 1 == i && q.2.category == 2))) = lv' x) (he : jl_let v F = some r) (K : ∀ x : Int64, F x = some r → JJ D X nL k n (pc + 1) (lv' x) st ws) : JJ D X nL k n pc lv (.long v :: st) ws := by
  obtain ⟨p, l, e, R, s, m, args, below, meth, c, A, Q⟩ := X
  obtain ⟨hx, hb, hml, hown, hts, hK, hA, hlk, hR, hNW⟩ := C
  intro H locs ls hP hD hS h
  exact lv_lstore_n hx hb hdg hi h hn (hl v) (fun ls2 h2 => K v he H locs ls2 hP hD hS h2)
theorem j_lstore (C : JC D X nL own cc rm) {i : Nat} {v : Int64} {lv' : Int64 → List (Nat × Value)} {α : Type} {F : Int64 → Option α} {r : α} (hdg : decode cc pc = .ok (.lstore i, 2)) (hn : i + 1 < nL) (hl : ∀ x : Int64, (i, Value.long x) :: lv.filter (fun q => !(q.1 == i) && (!(q.1 == i + 1) && !(q.1 + 1 == i && q.2.category == 2))) = lv' x) (he : jl_let v F = some r) (K : ∀ x : Int64, F x = some r → JJ D X nL k n (pc + 2) (lv' x) st ws) : JJ D X nL k n pc lv (.long v :: st) ws := by
  obtain ⟨p, l, e, R, s, m, args, below, meth, c, A, Q⟩ := X
  obtain ⟨hx, hb, hml, hown, hts, hK, hA, hlk, hR, hNW⟩ := C
  intro H locs ls hP hD hS h
  exact lv_lstore hx hb hdg h hn (hl v) (fun ls2 h2 => K v he H locs ls2 hP hD hS h2)
theorem j_astore_n (C : JC D X nL own cc rm) {f : Fin 4} {i v : Nat} {lv' : List (Nat × Value)} (hdg : decode cc pc = .ok (.astore_n f, 1)) (hi : (f : Nat) = i) (hn : i < nL) (hl : (i, Value.ref v) :: lv.filter (fun q => !(q.1 == i) && !(q.1 + 1 == i && q.2.category == 2)) = lv') (K : JJ D X nL k n (pc + 1) lv' st ws) : JJ D X nL k n pc lv (.ref v :: st) ws := by
  obtain ⟨p, l, e, R, s, m, args, below, meth, c, A, Q⟩ := X
  obtain ⟨hx, hb, hml, hown, hts, hK, hA, hlk, hR, hNW⟩ := C
  intro H locs ls hP hD hS h
  exact lv_astore_n hx hb hdg hi h hn hl (fun ls2 h2 => K H locs ls2 hP hD hS h2)
theorem j_iinc (C : JC D X nL own cc rm) {i : Nat} {z : Int} {x : Int32} {lv' : Int32 → List (Nat × Value)} {α : Type} {F : Int32 → Option α} {r : α} (hdg : decode cc pc = .ok (.iinc i z, 3)) (q : Nat) (hq : lv[q]? = some (i, .int x)) (hn : i < nL) (hl : ∀ y : Int32, (i, Value.int y) :: lv.filter (fun q => !(q.1 == i) && !(q.1 + 1 == i && q.2.category == 2)) = lv' y) (he : jl_let (x + Int32.ofInt z) F = some r) (K : ∀ y : Int32, F y = some r → JJ D X nL k n (pc + 3) (lv' y) st ws) : JJ D X nL k n pc lv st ws := by
  obtain ⟨p, l, e, R, s, m, args, below, meth, c, A, Q⟩ := X
  obtain ⟨hx, hb, hml, hown, hts, hK, hA, hlk, hR, hNW⟩ := C
  intro H locs ls hP hD hS h
  exact lv_iinc hx hb hdg h hq rfl hn (hl _) (fun ls2 h2 => K _ he H locs ls2 hP hD hS h2)
theorem j_tableIn (C : JC D X nL own cc rm) {dflt lo hi : Int} {offs : Array Int} {len : Nat} {x kv : Int32} {off z : Int} {tgt : Nat} (hdg : decode cc pc = .ok (.tableswitch dflt lo hi offs, len)) (hx2 : x = kv) (hz : kv.toInt = z) (h1 : ¬ z < lo) (h2 : ¬ hi < z) (ho : offs[(z - lo).toNat]? = some off) (ht : (pc : Int) + off = (tgt : Int)) (K : JJ D X nL k n tgt lv st ws) : JJ D X nL k n pc lv (.int x :: st) ws := by
  obtain ⟨p, l, e, R, s, m, args, below, meth, c, A, Q⟩ := X
  obtain ⟨hx, hb, hml, hown, hts, hK, hA, hlk, hR, hNW⟩ := C
  intro H locs ls hP hD hS h
  subst hx2
  exact lv_tableIn hx hb hdg (by rw [hz]; exact h1) (by rw [hz]; exact h2) (by rw [hz]; exact ho) ht (K H locs ls hP hD hS h)
theorem j_tableOut (C : JC D X nL own cc rm) {dflt lo hi : Int} {offs : Array Int} {len : Nat} {x : Int32} {tgt : Nat} (hdg : decode cc pc = .ok (.tableswitch dflt lo hi offs, len)) (ho : x.toInt < lo ∨ hi < x.toInt) (ht : (pc : Int) + dflt = (tgt : Int)) (K : JJ D X nL k n tgt lv st ws) : JJ D X nL k n pc lv (.int x :: st) ws := by
  obtain ⟨p, l, e, R, s, m, args, below, meth, c, A, Q⟩ := X
  obtain ⟨hx, hb, hml, hown, hts, hK, hA, hlk, hR, hNW⟩ := C
  intro H locs ls hP hD hS h
  exact lv_tableOut hx hb hdg ho ht (K H locs ls hP hD hS h)
theorem j_lookup (C : JC D X nL own cc rm) {dflt : Int} {ps : Array (Int × Int)} {len : Nat} {x : Int32} {off : Int} {tgt : Nat} (hdg : decode cc pc = .ok (.lookupswitch dflt ps, len)) (hp : (ps.toList.zip (ps.toList.drop 1)).all (fun (a, next) => a.1 < next.1) = true) (ho : Op.lookupswitch.offset ps.toList dflt x.toInt = off) (ht : (pc : Int) + off = (tgt : Int)) (K : JJ D X nL k n tgt lv st ws) : JJ D X nL k n pc lv (.int x :: st) ws := by
  obtain ⟨p, l, e, R, s, m, args, below, meth, c, A, Q⟩ := X
  obtain ⟨hx, hb, hml, hown, hts, hK, hA, hlk, hR, hNW⟩ := C
  intro H locs ls hP hD hS h
  exact lv_lookup hx hb hdg hp ho ht (K H locs ls hP hD hS h)

theorem j_get (C : JC D X nL own cc rm) {Cn : String} {T : u_T} {N ci index a : Nat} (hin : ∀ w ∈ u_ws Cn T N, w ∈ BIG) (q0 : Nat) {fs : List Value} (he : ws[q0]? = some (a, .inr (ci, fs))) (hc : vwCl[ci]? = some (Cn, T, N)) (j : Nat) (hj : j < N) (hlink : Cond.fieldLink own index (T j).1 (T j).2.1 (T j).2.2.1 ∈ BIG) {v : Value} (hv : fs[j]? = some v) (hdg : decode cc pc = .ok (.getfield index, 3)) (K : JJ D X nL k n (pc + 3) lv (v :: st) ws) : JJ D X nL k n pc lv (.ref a :: st) ws := by
  obtain ⟨p, l, e, R, s, m, args, below, meth, c, A, Q⟩ := X
  obtain ⟨hx, hb, hml, hown, hts, hK, hA, hlk, hR, hNW⟩ := C
  intro H locs ls hP hD hS h
  exact va_get hx hb hts hin hown hK hP q0 he hc j hj (hts _ hlink) (fun _ h9 => h9) hv hdg (K H locs ls hP hD hS h)
theorem j_put (C : JC D X nL own cc rm) {Cn : String} {T : u_T} {N ci index a : Nat} (hin : ∀ w ∈ u_ws Cn T N, w ∈ BIG) (ty0 : Nat → FieldType) (hty : ∀ j, j < N → parseFieldDescriptor (T j).2.2.1 = some (ty0 j)) (hnm : ∀ a, a < N → ∀ b, b < N → a ≠ b → (T a).2.1 ≠ (T b).2.1) (q0 : Nat) {fs : List Value} (he : ws[q0]? = some (a, .inr (ci, fs))) (hc : vwCl[ci]? = some (Cn, T, N)) (j : Nat) (hj : j < N) (hlink : Cond.fieldLink own index (T j).1 (T j).2.1 (T j).2.2.1 ∈ BIG) (hfin : (T j).2.2.2 = false) {v : Value} (hn : narrow (ty0 j) v = v) (hfit : fits (ty0 j) v = true) (hl : j < fs.length) (hdg : decode cc pc = .ok (.putfield index, 3)) {ws' : va_W} (hw : ws.set q0 (a, .inr (ci, fs.set j v)) = ws') (K : JJ D X nL k n (pc + 3) lv st ws') : JJ D X nL k n pc lv (v :: .ref a :: st) ws := by
  obtain ⟨p, l, e, R, s, m, args, below, meth, c, A, Q⟩ := X
  obtain ⟨hx, hb, hml, hown, hts, hK, hA, hlk, hR, hNW⟩ := C
  intro H locs ls hP hD hS h
  subst hw
  exact va_put hx hb hts hin ty0 hty hnm hown hK hP hD hS q0 he hc j hj (hts _ hlink) (fun _ h9 => h9) hfin (hty j hj) hn hfit hl hdg (fun H1 locs1 hP1 hD1 hS1 => K H1 locs1 ls hP1 hD1 hS1 h)
theorem j_getN (C : JC D X nL own cc rm) {Cn : String} {T : u_T} {N ci index a : Nat} (hin : ∀ w ∈ u_ws Cn T N, w ∈ BIG) {host : String} (q0 : Nat) {fs : List Value} (he : ws[q0]? = some (a, .inr (ci, fs))) (hc : vwCl[ci]? = some (Cn, T, N)) (j : Nat) (hj : j < N) (hlink : (own, index, (T j).1, (T j).2.1, (T j).2.2.1, host) ∈ jfn) {v : Value} (hv : fs[j]? = some v) (hdg : decode cc pc = .ok (.getfield index, 3)) (K : JJ D X nL k n (pc + 3) lv (v :: st) ws) : JJ D X nL k n pc lv (.ref a :: st) ws := by
  obtain ⟨p, l, e, R, s, m, args, below, meth, c, A, Q⟩ := X
  obtain ⟨hx, hb, hml, hown, hts, hK, hA, hlk, hR, hNW⟩ := C
  intro H locs ls hP hD hS h
  exact va_getN hx hb hts hin hown hK hP q0 he hc j hj (hNW.f hlink) (fun _ h9 => h9) hv hdg (K H locs ls hP hD hS h)
theorem j_putN (C : JC D X nL own cc rm) {Cn : String} {T : u_T} {N ci index a : Nat} (hin : ∀ w ∈ u_ws Cn T N, w ∈ BIG) {host : String} (ty0 : Nat → FieldType) (hty : ∀ j, j < N → parseFieldDescriptor (T j).2.2.1 = some (ty0 j)) (hnm : ∀ a, a < N → ∀ b, b < N → a ≠ b → (T a).2.1 ≠ (T b).2.1) (q0 : Nat) {fs : List Value} (he : ws[q0]? = some (a, .inr (ci, fs))) (hc : vwCl[ci]? = some (Cn, T, N)) (j : Nat) (hj : j < N) (hlink : (own, index, (T j).1, (T j).2.1, (T j).2.2.1, host) ∈ jfn) (hfin : (T j).2.2.2 = false) {v : Value} (hn : narrow (ty0 j) v = v) (hfit : fits (ty0 j) v = true) (hl : j < fs.length) (hdg : decode cc pc = .ok (.putfield index, 3)) {ws' : va_W} (hw : ws.set q0 (a, .inr (ci, fs.set j v)) = ws') (K : JJ D X nL k n (pc + 3) lv st ws') : JJ D X nL k n pc lv (v :: .ref a :: st) ws := by
  obtain ⟨p, l, e, R, s, m, args, below, meth, c, A, Q⟩ := X
  obtain ⟨hx, hb, hml, hown, hts, hK, hA, hlk, hR, hNW⟩ := C
  intro H locs ls hP hD hS h
  subst hw
  exact va_putN hx hb hts hin ty0 hty hnm hown hK hP hD hS q0 he hc j hj (hNW.f hlink) (fun _ h9 => h9) hfin (hty j hj) hn hfit hl hdg (fun H1 locs1 hP1 hD1 hS1 => K H1 locs1 ls hP1 hD1 hS1 h)
theorem jl_arr {H : Heap} {D : jv_D} {ws : va_W} {A : Nat → Prop} : True := trivial
theorem j_iald (C : JC D X nL own cc rm) {a N : Nat} {f : Nat → Int32} {i : Int32} (q0 : Nat) (ha : ws[q0]? = some (a, jI D N f)) (hin : vp_in i N) (hdg : decode cc pc = .ok (.iaload, 1)) (K : JJ D X nL k n (pc + 1) lv (.int (f i.toNatClampNeg) :: st) ws) : JJ D X nL k n pc lv (.int i :: .ref a :: st) ws := by
  obtain ⟨p, l, e, R, s, m, args, below, meth, c, A, Q⟩ := X
  obtain ⟨hx, hb, hml, hown, hts, hK, hA, hlk, hR, hNW⟩ := C
  intro H locs ls hP hD hS h
  exact va_iald hx hb hK hP q0 0 ha rfl hin hdg (K H locs ls hP hD hS h)
theorem j_iast (C : JC D X nL own cc rm) {a N : Nat} {f : Nat → Int32} {i : Int32} {x : Int32} (q0 : Nat) (ha : ws[q0]? = some (a, jI D N f)) (hin : vp_in i N) (hdg : decode cc pc = .ok (.iastore, 1)) {ws' : (Nat → Int32) → va_W} {α : Type} {F : (Nat → Int32) → Option α} {r : α} (hw : ∀ g : Nat → Int32, ws.set q0 (a, jI D N g) = ws' g) (he : jl_let (upd f i.toNatClampNeg x) F = some r) (K : ∀ g : Nat → Int32, F g = some r → JJ D X nL k n (pc + 1) lv st (ws' g)) : JJ D X nL k n pc lv (.int x :: .int i :: .ref a :: st) ws := by
  obtain ⟨p, l, e, R, s, m, args, below, meth, c, A, Q⟩ := X
  obtain ⟨hx, hb, hml, hown, hts, hK, hA, hlk, hR, hNW⟩ := C
  intro H locs ls hP hD hS h
  exact va_iast hx hb hK hP hD hS q0 0 ha rfl hin hdg (fun H1 locs1 hP1 hD1 hS1 => K _ he H1 locs1 ls (by rw [← hw]; exact hP1) (by rw [← hw]; exact hD1) hS1 h)
theorem j_ilen (C : JC D X nL own cc rm) {a N : Nat} {f : Nat → Int32} {v : Int32} (q0 : Nat) (ha : ws[q0]? = some (a, jI D N f)) (hv : Int32.ofNat N = v) (hdg : decode cc pc = .ok (.arraylength, 1)) (K : JJ D X nL k n (pc + 1) lv (.int v :: st) ws) : JJ D X nL k n pc lv (.ref a :: st) ws := by
  obtain ⟨p, l, e, R, s, m, args, below, meth, c, A, Q⟩ := X
  obtain ⟨hx, hb, hml, hown, hts, hK, hA, hlk, hR, hNW⟩ := C
  intro H locs ls hP hD hS h
  exact va_alen hx hb hK hP q0 0 ha rfl hv hdg (K H locs ls hP hD hS h)
theorem j_bald (C : JC D X nL own cc rm) {a N : Nat} {f : Nat → Int32} {i : Int32} (q0 : Nat) (ha : ws[q0]? = some (a, jB D N f)) (hin : vp_in i N) (hdg : decode cc pc = .ok (.baload, 1)) (K : JJ D X nL k n (pc + 1) lv (.int (f i.toNatClampNeg) :: st) ws) : JJ D X nL k n pc lv (.int i :: .ref a :: st) ws := by
  obtain ⟨p, l, e, R, s, m, args, below, meth, c, A, Q⟩ := X
  obtain ⟨hx, hb, hml, hown, hts, hK, hA, hlk, hR, hNW⟩ := C
  intro H locs ls hP hD hS h
  exact va_bald hx hb hK hP q0 2 ha rfl hin hdg (K H locs ls hP hD hS h)
theorem j_bast (C : JC D X nL own cc rm) {a N : Nat} {f : Nat → Int32} {i : Int32} {x : Int32} (q0 : Nat) (ha : ws[q0]? = some (a, jB D N f)) (hin : vp_in i N) (hdg : decode cc pc = .ok (.bastore, 1)) {ws' : (Nat → Int32) → va_W} {α : Type} {F : (Nat → Int32) → Option α} {r : α} (hw : ∀ g : Nat → Int32, ws.set q0 (a, jB D N g) = ws' g) (he : jl_let (upd f i.toNatClampNeg (vp_nar .byte x)) F = some r) (K : ∀ g : Nat → Int32, F g = some r → JJ D X nL k n (pc + 1) lv st (ws' g)) : JJ D X nL k n pc lv (.int x :: .int i :: .ref a :: st) ws := by
  obtain ⟨p, l, e, R, s, m, args, below, meth, c, A, Q⟩ := X
  obtain ⟨hx, hb, hml, hown, hts, hK, hA, hlk, hR, hNW⟩ := C
  intro H locs ls hP hD hS h
  exact va_bast hx hb hK hP hD hS q0 2 ha rfl hin hdg (fun H1 locs1 hP1 hD1 hS1 => K _ he H1 locs1 ls (by rw [← hw]; exact hP1) (by rw [← hw]; exact hD1) hS1 h)
theorem j_blen (C : JC D X nL own cc rm) {a N : Nat} {f : Nat → Int32} {v : Int32} (q0 : Nat) (ha : ws[q0]? = some (a, jB D N f)) (hv : Int32.ofNat N = v) (hdg : decode cc pc = .ok (.arraylength, 1)) (K : JJ D X nL k n (pc + 1) lv (.int v :: st) ws) : JJ D X nL k n pc lv (.ref a :: st) ws := by
  obtain ⟨p, l, e, R, s, m, args, below, meth, c, A, Q⟩ := X
  obtain ⟨hx, hb, hml, hown, hts, hK, hA, hlk, hR, hNW⟩ := C
  intro H locs ls hP hD hS h
  exact va_alen hx hb hK hP q0 2 ha rfl hv hdg (K H locs ls hP hD hS h)
theorem j_zald (C : JC D X nL own cc rm) {a N : Nat} {f : Nat → Int32} {i : Int32} (q0 : Nat) (ha : ws[q0]? = some (a, jZ D N f)) (hin : vp_in i N) (hdg : decode cc pc = .ok (.baload, 1)) (K : JJ D X nL k n (pc + 1) lv (.int (f i.toNatClampNeg) :: st) ws) : JJ D X nL k n pc lv (.int i :: .ref a :: st) ws := by
  obtain ⟨p, l, e, R, s, m, args, below, meth, c, A, Q⟩ := X
  obtain ⟨hx, hb, hml, hown, hts, hK, hA, hlk, hR, hNW⟩ := C
  intro H locs ls hP hD hS h
  exact va_zald hx hb hK hP q0 3 ha rfl hin hdg (K H locs ls hP hD hS h)
theorem j_zast (C : JC D X nL own cc rm) {a N : Nat} {f : Nat → Int32} {i : Int32} {x : Int32} (q0 : Nat) (ha : ws[q0]? = some (a, jZ D N f)) (hin : vp_in i N) (hdg : decode cc pc = .ok (.bastore, 1)) {ws' : (Nat → Int32) → va_W} {α : Type} {F : (Nat → Int32) → Option α} {r : α} (hw : ∀ g : Nat → Int32, ws.set q0 (a, jZ D N g) = ws' g) (he : jl_let (upd f i.toNatClampNeg (vp_nar .boolean x)) F = some r) (K : ∀ g : Nat → Int32, F g = some r → JJ D X nL k n (pc + 1) lv st (ws' g)) : JJ D X nL k n pc lv (.int x :: .int i :: .ref a :: st) ws := by
  obtain ⟨p, l, e, R, s, m, args, below, meth, c, A, Q⟩ := X
  obtain ⟨hx, hb, hml, hown, hts, hK, hA, hlk, hR, hNW⟩ := C
  intro H locs ls hP hD hS h
  exact va_zast hx hb hK hP hD hS q0 3 ha rfl hin hdg (fun H1 locs1 hP1 hD1 hS1 => K _ he H1 locs1 ls (by rw [← hw]; exact hP1) (by rw [← hw]; exact hD1) hS1 h)
theorem j_zlen (C : JC D X nL own cc rm) {a N : Nat} {f : Nat → Int32} {v : Int32} (q0 : Nat) (ha : ws[q0]? = some (a, jZ D N f)) (hv : Int32.ofNat N = v) (hdg : decode cc pc = .ok (.arraylength, 1)) (K : JJ D X nL k n (pc + 1) lv (.int v :: st) ws) : JJ D X nL k n pc lv (.ref a :: st) ws := by
  obtain ⟨p, l, e, R, s, m, args, below, meth, c, A, Q⟩ := X
  obtain ⟨hx, hb, hml, hown, hts, hK, hA, hlk, hR, hNW⟩ := C
  intro H locs ls hP hD hS h
  exact va_alen hx hb hK hP q0 3 ha rfl hv hdg (K H locs ls hP hD hS h)
theorem j_lald (C : JC D X nL own cc rm) {a N : Nat} {f : Nat → Int64} {i : Int32} (q0 : Nat) (ha : ws[q0]? = some (a, jJ D N f)) (hin : vp_in i N) (hdg : decode cc pc = .ok (.laload, 1)) (K : JJ D X nL k n (pc + 1) lv (.long (f i.toNatClampNeg) :: st) ws) : JJ D X nL k n pc lv (.int i :: .ref a :: st) ws := by
  obtain ⟨p, l, e, R, s, m, args, below, meth, c, A, Q⟩ := X
  obtain ⟨hx, hb, hml, hown, hts, hK, hA, hlk, hR, hNW⟩ := C
  intro H locs ls hP hD hS h
  exact va_lald hx hb hK hP q0 1 ha rfl hin hdg (K H locs ls hP hD hS h)
theorem j_last (C : JC D X nL own cc rm) {a N : Nat} {f : Nat → Int64} {i : Int32} {x : Int64} (q0 : Nat) (ha : ws[q0]? = some (a, jJ D N f)) (hin : vp_in i N) (hdg : decode cc pc = .ok (.lastore, 1)) {ws' : (Nat → Int64) → va_W} {α : Type} {F : (Nat → Int64) → Option α} {r : α} (hw : ∀ g : Nat → Int64, ws.set q0 (a, jJ D N g) = ws' g) (he : jl_let (vp_updL f i.toNatClampNeg x) F = some r) (K : ∀ g : Nat → Int64, F g = some r → JJ D X nL k n (pc + 1) lv st (ws' g)) : JJ D X nL k n pc lv (.long x :: .int i :: .ref a :: st) ws := by
  obtain ⟨p, l, e, R, s, m, args, below, meth, c, A, Q⟩ := X
  obtain ⟨hx, hb, hml, hown, hts, hK, hA, hlk, hR, hNW⟩ := C
  intro H locs ls hP hD hS h
  exact va_last hx hb hK hP hD hS q0 1 ha rfl hin hdg (fun H1 locs1 hP1 hD1 hS1 => K _ he H1 locs1 ls (by rw [← hw]; exact hP1) (by rw [← hw]; exact hD1) hS1 h)
theorem j_llen (C : JC D X nL own cc rm) {a N : Nat} {f : Nat → Int64} {v : Int32} (q0 : Nat) (ha : ws[q0]? = some (a, jJ D N f)) (hv : Int32.ofNat N = v) (hdg : decode cc pc = .ok (.arraylength, 1)) (K : JJ D X nL k n (pc + 1) lv (.int v :: st) ws) : JJ D X nL k n pc lv (.ref a :: st) ws := by
  obtain ⟨p, l, e, R, s, m, args, below, meth, c, A, Q⟩ := X
  obtain ⟨hx, hb, hml, hown, hts, hK, hA, hlk, hR, hNW⟩ := C
  intro H locs ls hP hD hS h
  exact va_alen hx hb hK hP q0 1 ha rfl hv hdg (K H locs ls hP hD hS h)
end JL
