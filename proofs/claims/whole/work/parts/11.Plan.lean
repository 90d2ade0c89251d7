theorem dX3_fitting_0 : decode cX3_fitting 0 = .ok (.aload_n 0, 1) := by decide +kernel
theorem dX3_fitting_1 : decode cX3_fitting 1 = .ok (.getfield 78, 3) := by decide +kernel
theorem dX3_fitting_4 : decode cX3_fitting 4 = .ok (.istore_n 2, 1) := by decide +kernel
theorem dX3_fitting_5 : decode cX3_fitting 5 = .ok (.iconst 0, 1) := by decide +kernel
theorem dX3_fitting_6 : decode cX3_fitting 6 = .ok (.istore_n 3, 1) := by decide +kernel
theorem dX3_fitting_7 : decode cX3_fitting 7 = .ok (.iload_n 3, 1) := by decide +kernel
theorem dX3_fitting_8 : decode cX3_fitting 8 = .ok (.aload_n 0, 1) := by decide +kernel
theorem dX3_fitting_9 : decode cX3_fitting 9 = .ok (.getfield 9, 3) := by decide +kernel
theorem dX3_fitting_12 : decode cX3_fitting 12 = .ok (.arraylength, 1) := by decide +kernel
theorem dX3_fitting_13 : decode cX3_fitting 13 = .ok (.if_icmp .ge 28, 3) := by decide +kernel
theorem dX3_fitting_16 : decode cX3_fitting 16 = .ok (.iload_n 1, 1) := by decide +kernel
theorem dX3_fitting_17 : decode cX3_fitting 17 = .ok (.iload_n 3, 1) := by decide +kernel
theorem dX3_fitting_18 : decode cX3_fitting 18 = .ok (.ishr, 1) := by decide +kernel
theorem dX3_fitting_19 : decode cX3_fitting 19 = .ok (.iconst 1, 1) := by decide +kernel
theorem dX3_fitting_20 : decode cX3_fitting 20 = .ok (.iand, 1) := by decide +kernel
theorem dX3_fitting_21 : decode cX3_fitting 21 = .ok (.ifCond .eq 14, 3) := by decide +kernel
theorem dX3_fitting_24 : decode cX3_fitting 24 = .ok (.iload_n 2, 1) := by decide +kernel
theorem dX3_fitting_25 : decode cX3_fitting 25 = .ok (.aload_n 0, 1) := by decide +kernel
theorem dX3_fitting_26 : decode cX3_fitting 26 = .ok (.getfield 9, 3) := by decide +kernel
theorem dX3_fitting_29 : decode cX3_fitting 29 = .ok (.iload_n 3, 1) := by decide +kernel
theorem dX3_fitting_30 : decode cX3_fitting 30 = .ok (.iaload, 1) := by decide +kernel
theorem dX3_fitting_31 : decode cX3_fitting 31 = .ok (.iconst (-1), 1) := by decide +kernel
theorem dX3_fitting_32 : decode cX3_fitting 32 = .ok (.ixor, 1) := by decide +kernel
theorem dX3_fitting_33 : decode cX3_fitting 33 = .ok (.iand, 1) := by decide +kernel
theorem dX3_fitting_34 : decode cX3_fitting 34 = .ok (.istore_n 2, 1) := by decide +kernel
theorem dX3_fitting_35 : decode cX3_fitting 35 = .ok (.iinc 3 1, 3) := by decide +kernel
theorem dX3_fitting_38 : decode cX3_fitting 38 = .ok (.goto (-31), 3) := by decide +kernel
theorem dX3_fitting_41 : decode cX3_fitting 41 = .ok (.iload_n 2, 1) := by decide +kernel
theorem dX3_fitting_42 : decode cX3_fitting 42 = .ok (.ireturn, 1) := by decide +kernel
def bX3_fitting_7 (F : Nat) (t_fitsAtFirst : Int32) (t_ruledOut_ : Nat → Int32) (p1 : Int32)  (k7 : Int32 → Int32 → Option (Int32)) (x1 : Int32) (x2 : Int32) : Option (Int32) :=
(if ((27 : Int32)) ≤ x2 then
(some (x1))
else
(if ((p1 >>> (x2 &&& 31)) &&& ((1 : Int32))) = 0 then
(jl_let (x2 + Int32.ofInt (1)) fun v5 =>
(k7 x1 v5))
else
(if x2 < 0 ∨ 27 ≤ x2.toNatClampNeg then none else
(jl_let (x1 &&& ((t_ruledOut_ x2.toNatClampNeg) ^^^ ((-1 : Int32)))) fun v7 =>
(jl_let (x2 + Int32.ofInt (1)) fun v8 =>
(k7 v7 v8))))))
def lX3_fitting_7 (F : Nat) (t_fitsAtFirst : Int32) (t_ruledOut_ : Nat → Int32) (p1 : Int32)  (F2 : Nat) (x1 : Int32) (x2 : Int32) : Option (Int32) := jl_loop2 (bX3_fitting_7 F t_fitsAtFirst t_ruledOut_ p1 ) F2 x1 x2
def fX3_fitting (F : Nat) (t_fitsAtFirst : Int32) (t_ruledOut_ : Nat → Int32) (p1 : Int32) : Option (Int32) :=
(lX3_fitting_7 F t_fitsAtFirst t_ruledOut_ p1 F t_fitsAtFirst ((0 : Int32)))
def oX3_fitting (D : jv_D) (h_t : Nat) (h_t_ruledOut : Nat) (t_rows : Int32) (t_columns : Int32) (t_paints : Int32) (t_apart : Int32) (t_paintsOf0 : Int32) (t_paintsOf1 : Int32) (t_old : Int32) (t_shut : Int32) (t_all : Int32) (t_firstColumn : Int32) (t_fitsAtFirst : Int32) (t_paintingsOf0 : Int32) (t_paintingsOf1 : Int32) (t_ruledOut_ : Nat → Int32) (r : Int32) : va_W := [(h_t, .inr (2, [.int t_rows, .int t_columns, .int t_paints, .int t_apart, .int t_paintsOf0, .int t_paintsOf1, .int t_old, .int t_shut, .int t_all, .int t_firstColumn, .int t_fitsAtFirst, .int t_paintingsOf0, .int t_paintingsOf1, .ref h_t_ruledOut])), (h_t_ruledOut, jI D 27 t_ruledOut_)]
set_option maxHeartbeats 40000000 in
set_option maxRecDepth 100000 in
theorem mX3_fitting (l : Launch) (D : jv_D) (F : Nat) (h_t : Nat) (h_t_ruledOut : Nat) (t_rows : Int32) (t_columns : Int32) (t_paints : Int32) (t_apart : Int32) (t_paintsOf0 : Int32) (t_paintsOf1 : Int32) (t_old : Int32) (t_shut : Int32) (t_all : Int32) (t_firstColumn : Int32) (t_fitsAtFirst : Int32) (t_paintingsOf0 : Int32) (t_paintingsOf1 : Int32) (t_ruledOut_ : Nat → Int32) (p1 : Int32) (r : Int32) (h : fX3_fitting F t_fitsAtFirst t_ruledOut_ p1 = some r) : MM l yX3_fitting (jW yX3_fitting cX3_fitting 4 (some .int)) ({ frames := 0, cells := 0, slots := 0, locals := 0 }) D [.ref h_t, .int p1] [(h_t, .inr (2, [.int t_rows, .int t_columns, .int t_paints, .int t_apart, .int t_paintsOf0, .int t_paintsOf1, .int t_old, .int t_shut, .int t_all, .int t_firstColumn, .int t_fitsAtFirst, .int t_paintingsOf0, .int t_paintingsOf1, .ref h_t_ruledOut])), (h_t_ruledOut, jI D 27 t_ruledOut_)] (some (.int r)) (oX3_fitting D h_t h_t_ruledOut t_rows t_columns t_paints t_apart t_paintsOf0 t_paintsOf1 t_old t_shut t_all t_firstColumn t_fitsAtFirst t_paintingsOf0 t_paintingsOf1 t_ruledOut_ r) := by
  refine mn_of hpX3_fitting (Nat.le_of_ble_eq_true rfl) ?_
  intro X hXl C E0 hN
  subst hXl
  replace C : JC D X 4 RX3 cX3_fitting ({ frames := 0, cells := 0, slots := 0, locals := 0 }) := C
  have E : JE D X 0 0 (some .int) (fun _ : Unit => (some (.int r))) (fun _ : Unit => (oX3_fitting D h_t h_t_ruledOut t_rows t_columns t_paints t_apart t_paintsOf0 t_paintsOf1 t_old t_shut t_all t_firstColumn t_fitsAtFirst t_paintingsOf0 t_paintingsOf1 t_ruledOut_ r)) := E0 0 0 rfl rfl
  clear E0 hN
  show JJ D X 4 0 0 0 [(0, .ref h_t), (1, .int p1)] [] [(h_t, .inr (2, [.int t_rows, .int t_columns, .int t_paints, .int t_apart, .int t_paintsOf0, .int t_paintsOf1, .int t_old, .int t_shut, .int t_all, .int t_firstColumn, .int t_fitsAtFirst, .int t_paintingsOf0, .int t_paintingsOf1, .ref h_t_ruledOut])), (h_t_ruledOut, jI D 27 t_ruledOut_)]
  unfold fX3_fitting at h
  have L7 : ∀ (x1 : Int32) (x2 : Int32), lX3_fitting_7 F t_fitsAtFirst t_ruledOut_ p1  F x1 x2 = some r → JJ D X 4 0 0 7 [(0, .ref h_t), (1, .int p1), (2, .int x1), (3, .int x2)] [] [(h_t, .inr (2, [.int t_rows, .int t_columns, .int t_paints, .int t_apart, .int t_paintsOf0, .int t_paintsOf1, .int t_old, .int t_shut, .int t_all, .int t_firstColumn, .int t_fitsAtFirst, .int t_paintingsOf0, .int t_paintingsOf1, .ref h_t_ruledOut])), (h_t_ruledOut, jI D 27 t_ruledOut_)] := by
    intro x1 x2 h
    refine jl_ind2 (fun x1 x2 => JJ D X 4 0 0 7 [(0, .ref h_t), (1, .int p1), (2, .int x1), (3, .int x2)] [] [(h_t, .inr (2, [.int t_rows, .int t_columns, .int t_paints, .int t_apart, .int t_paintsOf0, .int t_paintsOf1, .int t_old, .int t_shut, .int t_all, .int t_firstColumn, .int t_fitsAtFirst, .int t_paintingsOf0, .int t_paintingsOf1, .ref h_t_ruledOut])), (h_t_ruledOut, jI D 27 t_ruledOut_)]) ?_ F x1 x2 h
    clear h x1 x2
    intro k7 i7 x1 x2 h
    replace i7 : ∀ (x1 : Int32) (x2 : Int32), k7 x1 x2 = some r → JJ D X 4 0 0 7 [(0, .ref h_t), (1, .int p1), (2, .int x1), (3, .int x2)] [] [(h_t, .inr (2, [.int t_rows, .int t_columns, .int t_paints, .int t_apart, .int t_paintsOf0, .int t_paintsOf1, .int t_old, .int t_shut, .int t_all, .int t_firstColumn, .int t_fitsAtFirst, .int t_paintingsOf0, .int t_paintingsOf1, .ref h_t_ruledOut])), (h_t_ruledOut, jI D 27 t_ruledOut_)] := i7
    show JJ D X 4 0 0 7 [(0, .ref h_t), (1, .int p1), (2, .int x1), (3, .int x2)] [] [(h_t, .inr (2, [.int t_rows, .int t_columns, .int t_paints, .int t_apart, .int t_paintsOf0, .int t_paintsOf1, .int t_old, .int t_shut, .int t_all, .int t_firstColumn, .int t_fitsAtFirst, .int t_paintingsOf0, .int t_paintingsOf1, .ref h_t_ruledOut])), (h_t_ruledOut, jI D 27 t_ruledOut_)]
    unfold bX3_fitting_7 at h
    refine j_iload_n C dX3_fitting_7 rfl 3 rfl ?_
    refine j_aload_n C dX3_fitting_8 rfl 0 rfl ?_
    refine j_get C ibX3 (ci := 2) 0 rfl rfl 13 (by decide) bfX3_9 (v := .ref h_t_ruledOut) rfl dX3_fitting_9 ?_
    refine j_ilen C 1 rfl (v := (27 : Int32)) (by decide) dX3_fitting_12 ?_
    refine j_icmp_ge C (tgt := 41) dX3_fitting_13 (by decide) h (fun c3 h => ?_) (fun c3 h => ?_)
    · refine j_iload_n C dX3_fitting_41 rfl 2 rfl ?_
      exact j_iretR C (r := r) (rtf := fun r => (some (.int r))) (wff := fun r => (oX3_fitting D h_t h_t_ruledOut t_rows t_columns t_paints t_apart t_paintsOf0 t_paintsOf1 t_old t_shut t_all t_firstColumn t_fitsAtFirst t_paintingsOf0 t_paintingsOf1 t_ruledOut_ r)) E h rfl rfl dX3_fitting_42
    · refine j_iload_n C dX3_fitting_16 rfl 1 rfl ?_
      refine j_iload_n C dX3_fitting_17 rfl 3 rfl ?_
      refine j_ishr C dX3_fitting_18 ?_
      refine j_iconst C dX3_fitting_19 (v := (1 : Int32)) (by decide) ?_
      refine j_iand C dX3_fitting_20 ?_
      refine j_if_eq C (tgt := 35) dX3_fitting_21 (by decide) h (fun c4 h => ?_) (fun c4 h => ?_)
      · refine j_iinc C dX3_fitting_35 3 rfl (lv' := fun v5 => [(3, .int v5), (0, .ref h_t), (1, .int p1), (2, .int x1)]) (by decide) (fun _ => rfl) h (fun v5 h => ?_)
        refine j_goto C dX3_fitting_38 (tgt := 7) (by decide) ?_
        refine j_sub (lv' := [(0, .ref h_t), (1, .int p1), (2, .int x1), (3, .int v5)]) [1, 2, 3, 0] rfl ?_
        exact i7 x1 v5 h
      · refine j_iload_n C dX3_fitting_24 rfl 2 rfl ?_
        refine j_aload_n C dX3_fitting_25 rfl 0 rfl ?_
        refine j_get C ibX3 (ci := 2) 0 rfl rfl 13 (by decide) bfX3_9 (v := .ref h_t_ruledOut) rfl dX3_fitting_26 ?_
        refine j_iload_n C dX3_fitting_29 rfl 3 rfl ?_
        refine jl_inb h (fun b6 h => ?_)
        refine j_iald C 1 rfl b6 dX3_fitting_30 ?_
        refine j_iconst C dX3_fitting_31 (v := (-1 : Int32)) (by decide) ?_
        refine j_ixor C dX3_fitting_32 ?_
        refine j_iand C dX3_fitting_33 ?_
        refine j_istore_n C dX3_fitting_34 rfl (lv' := fun v7 => [(2, .int v7), (0, .ref h_t), (1, .int p1), (3, .int x2)]) (by decide) (fun _ => rfl) h (fun v7 h => ?_)
        refine j_iinc C dX3_fitting_35 3 rfl (lv' := fun v8 => [(3, .int v8), (2, .int v7), (0, .ref h_t), (1, .int p1)]) (by decide) (fun _ => rfl) h (fun v8 h => ?_)
        refine j_goto C dX3_fitting_38 (tgt := 7) (by decide) ?_
        refine j_sub (lv' := [(0, .ref h_t), (1, .int p1), (2, .int v7), (3, .int v8)]) [2, 3, 1, 0] rfl ?_
        exact i7 v7 v8 h
  refine j_aload_n C dX3_fitting_0 rfl 0 rfl ?_
  refine j_get C ibX3 (ci := 2) 0 rfl rfl 10 (by decide) bfX3_78 (v := .int t_fitsAtFirst) rfl dX3_fitting_1 ?_
  refine j_istore_nC C dX3_fitting_4 rfl (lv' := [(2, .int t_fitsAtFirst), (0, .ref h_t), (1, .int p1)]) (by decide) rfl ?_
  refine j_iconst C dX3_fitting_5 (v := (0 : Int32)) (by decide) ?_
  refine j_istore_nC C dX3_fitting_6 rfl (lv' := [(3, .int ((0 : Int32))), (2, .int t_fitsAtFirst), (0, .ref h_t), (1, .int p1)]) (by decide) rfl ?_
  refine j_sub (lv' := [(0, .ref h_t), (1, .int p1), (2, .int t_fitsAtFirst), (3, .int ((0 : Int32)))]) [2, 3, 1, 0] rfl ?_
  exact L7 t_fitsAtFirst ((0 : Int32)) h
theorem dX3_paintingsOf_0 : decode cX3_paintingsOf 0 = .ok (.iload_n 1, 1) := by decide +kernel
theorem dX3_paintingsOf_1 : decode cX3_paintingsOf 1 = .ok (.ifCond .ne 10, 3) := by decide +kernel
theorem dX3_paintingsOf_4 : decode cX3_paintingsOf 4 = .ok (.aload_n 0, 1) := by decide +kernel
theorem dX3_paintingsOf_5 : decode cX3_paintingsOf 5 = .ok (.getfield 53, 3) := by decide +kernel
theorem dX3_paintingsOf_8 : decode cX3_paintingsOf 8 = .ok (.goto 7, 3) := by decide +kernel
theorem dX3_paintingsOf_11 : decode cX3_paintingsOf 11 = .ok (.aload_n 0, 1) := by decide +kernel
theorem dX3_paintingsOf_12 : decode cX3_paintingsOf 12 = .ok (.getfield 56, 3) := by decide +kernel
theorem dX3_paintingsOf_15 : decode cX3_paintingsOf 15 = .ok (.ireturn, 1) := by decide +kernel
def fX3_paintingsOf (t_paintingsOf0 : Int32) (t_paintingsOf1 : Int32) (p1 : Int32) : Option (Int32) :=
(if p1 = 0 then
(some (t_paintingsOf0))
else
(some (t_paintingsOf1)))
def oX3_paintingsOf (D : jv_D) (h_t : Nat) (h_t_ruledOut : Nat) (t_rows : Int32) (t_columns : Int32) (t_paints : Int32) (t_apart : Int32) (t_paintsOf0 : Int32) (t_paintsOf1 : Int32) (t_old : Int32) (t_shut : Int32) (t_all : Int32) (t_firstColumn : Int32) (t_fitsAtFirst : Int32) (t_paintingsOf0 : Int32) (t_paintingsOf1 : Int32) (r : Int32) : va_W := [(h_t, .inr (2, [.int t_rows, .int t_columns, .int t_paints, .int t_apart, .int t_paintsOf0, .int t_paintsOf1, .int t_old, .int t_shut, .int t_all, .int t_firstColumn, .int t_fitsAtFirst, .int t_paintingsOf0, .int t_paintingsOf1, .ref h_t_ruledOut]))]
set_option maxHeartbeats 40000000 in
set_option maxRecDepth 100000 in
theorem mX3_paintingsOf (l : Launch) (D : jv_D) (h_t : Nat) (h_t_ruledOut : Nat) (t_rows : Int32) (t_columns : Int32) (t_paints : Int32) (t_apart : Int32) (t_paintsOf0 : Int32) (t_paintsOf1 : Int32) (t_old : Int32) (t_shut : Int32) (t_all : Int32) (t_firstColumn : Int32) (t_fitsAtFirst : Int32) (t_paintingsOf0 : Int32) (t_paintingsOf1 : Int32) (p1 : Int32) (r : Int32) (h : fX3_paintingsOf t_paintingsOf0 t_paintingsOf1 p1 = some r) : MM l yX3_paintingsOf (jW yX3_paintingsOf cX3_paintingsOf 2 (some .int)) ({ frames := 0, cells := 0, slots := 0, locals := 0 }) D [.ref h_t, .int p1] [(h_t, .inr (2, [.int t_rows, .int t_columns, .int t_paints, .int t_apart, .int t_paintsOf0, .int t_paintsOf1, .int t_old, .int t_shut, .int t_all, .int t_firstColumn, .int t_fitsAtFirst, .int t_paintingsOf0, .int t_paintingsOf1, .ref h_t_ruledOut]))] (some (.int r)) (oX3_paintingsOf D h_t h_t_ruledOut t_rows t_columns t_paints t_apart t_paintsOf0 t_paintsOf1 t_old t_shut t_all t_firstColumn t_fitsAtFirst t_paintingsOf0 t_paintingsOf1 r) := by
  refine mn_of hpX3_paintingsOf (Nat.le_of_ble_eq_true rfl) ?_
  intro X hXl C E0 hN
  subst hXl
  replace C : JC D X 2 RX3 cX3_paintingsOf ({ frames := 0, cells := 0, slots := 0, locals := 0 }) := C
  have E : JE D X 0 0 (some .int) (fun _ : Unit => (some (.int r))) (fun _ : Unit => (oX3_paintingsOf D h_t h_t_ruledOut t_rows t_columns t_paints t_apart t_paintsOf0 t_paintsOf1 t_old t_shut t_all t_firstColumn t_fitsAtFirst t_paintingsOf0 t_paintingsOf1 r)) := E0 0 0 rfl rfl
  clear E0 hN
  show JJ D X 2 0 0 0 [(0, .ref h_t), (1, .int p1)] [] [(h_t, .inr (2, [.int t_rows, .int t_columns, .int t_paints, .int t_apart, .int t_paintsOf0, .int t_paintsOf1, .int t_old, .int t_shut, .int t_all, .int t_firstColumn, .int t_fitsAtFirst, .int t_paintingsOf0, .int t_paintingsOf1, .ref h_t_ruledOut]))]
  unfold fX3_paintingsOf at h
  refine j_iload_n C dX3_paintingsOf_0 rfl 1 rfl ?_
  refine j_if_ne C (tgt := 11) dX3_paintingsOf_1 (by decide) h (fun c1 h => ?_) (fun c1 h => ?_)
  · refine j_aload_n C dX3_paintingsOf_4 rfl 0 rfl ?_
    refine j_get C ibX3 (ci := 2) 0 rfl rfl 11 (by decide) bfX3_53 (v := .int t_paintingsOf0) rfl dX3_paintingsOf_5 ?_
    refine j_goto C dX3_paintingsOf_8 (tgt := 15) (by decide) ?_
    exact j_iretR C (r := r) (rtf := fun r => (some (.int r))) (wff := fun r => (oX3_paintingsOf D h_t h_t_ruledOut t_rows t_columns t_paints t_apart t_paintsOf0 t_paintsOf1 t_old t_shut t_all t_firstColumn t_fitsAtFirst t_paintingsOf0 t_paintingsOf1 r)) E h rfl rfl dX3_paintingsOf_15
  · refine j_aload_n C dX3_paintingsOf_11 rfl 0 rfl ?_
    refine j_get C ibX3 (ci := 2) 0 rfl rfl 12 (by decide) bfX3_56 (v := .int t_paintingsOf1) rfl dX3_paintingsOf_12 ?_
    exact j_iretR C (r := r) (rtf := fun r => (some (.int r))) (wff := fun r => (oX3_paintingsOf D h_t h_t_ruledOut t_rows t_columns t_paints t_apart t_paintsOf0 t_paintsOf1 t_old t_shut t_all t_firstColumn t_fitsAtFirst t_paintingsOf0 t_paintingsOf1 r)) E h rfl rfl dX3_paintingsOf_15
theorem dX3_stonesWith_0 : decode cX3_stonesWith 0 = .ok (.iload_n 0, 1) := by decide +kernel
theorem dX3_stonesWith_1 : decode cX3_stonesWith 1 = .ok (.bipush 9, 2) := by decide +kernel
theorem dX3_stonesWith_3 : decode cX3_stonesWith 3 = .ok (.iload_n 1, 1) := by decide +kernel
theorem dX3_stonesWith_4 : decode cX3_stonesWith 4 = .ok (.iconst 1, 1) := by decide +kernel
theorem dX3_stonesWith_5 : decode cX3_stonesWith 5 = .ok (.isub, 1) := by decide +kernel
theorem dX3_stonesWith_6 : decode cX3_stonesWith 6 = .ok (.imul, 1) := by decide +kernel
theorem dX3_stonesWith_7 : decode cX3_stonesWith 7 = .ok (.ishr, 1) := by decide +kernel
theorem dX3_stonesWith_8 : decode cX3_stonesWith 8 = .ok (.sipush 511, 3) := by decide +kernel
theorem dX3_stonesWith_11 : decode cX3_stonesWith 11 = .ok (.iand, 1) := by decide +kernel
theorem dX3_stonesWith_12 : decode cX3_stonesWith 12 = .ok (.ireturn, 1) := by decide +kernel
def fX3_stonesWith (p0 : Int32) (p1 : Int32) : Option (Int32) :=
(some ((p0 >>> ((((9 : Int32)) * (p1 - ((1 : Int32)))) &&& 31)) &&& ((511 : Int32))))
def oX3_stonesWith (D : jv_D)  (r : Int32) : va_W := []
set_option maxHeartbeats 40000000 in
set_option maxRecDepth 100000 in
theorem mX3_stonesWith (l : Launch) (D : jv_D) (p0 : Int32) (p1 : Int32) (r : Int32) (h : fX3_stonesWith p0 p1 = some r) : MM l yX3_stonesWith (jW yX3_stonesWith cX3_stonesWith 2 (some .int)) ({ frames := 0, cells := 0, slots := 0, locals := 0 }) D [.int p0, .int p1] [] (some (.int r)) (oX3_stonesWith D  r) := by
  refine mn_of hpX3_stonesWith (Nat.le_of_ble_eq_true rfl) ?_
  intro X hXl C E0 hN
  subst hXl
  replace C : JC D X 2 RX3 cX3_stonesWith ({ frames := 0, cells := 0, slots := 0, locals := 0 }) := C
  have E : JE D X 0 0 (some .int) (fun _ : Unit => (some (.int r))) (fun _ : Unit => (oX3_stonesWith D  r)) := E0 0 0 rfl rfl
  clear E0 hN
  show JJ D X 2 0 0 0 [(0, .int p0), (1, .int p1)] [] []
  unfold fX3_stonesWith at h
  refine j_iload_n C dX3_stonesWith_0 rfl 0 rfl ?_
  refine j_bipush C dX3_stonesWith_1 (v := (9 : Int32)) (by decide) ?_
  refine j_iload_n C dX3_stonesWith_3 rfl 1 rfl ?_
  refine j_iconst C dX3_stonesWith_4 (v := (1 : Int32)) (by decide) ?_
  refine j_isub C dX3_stonesWith_5 ?_
  refine j_imul C dX3_stonesWith_6 ?_
  refine j_ishr C dX3_stonesWith_7 ?_
  refine j_sipush C dX3_stonesWith_8 (v := (511 : Int32)) (by decide) ?_
  refine j_iand C dX3_stonesWith_11 ?_
  exact j_iretR C (r := r) (rtf := fun r => (some (.int r))) (wff := fun r => (oX3_stonesWith D  r)) E h rfl rfl dX3_stonesWith_12
theorem dX3_painted_0 : decode cX3_painted 0 = .ok (.iload_n 0, 1) := by decide +kernel
theorem dX3_painted_1 : decode cX3_painted 1 = .ok (.iconst 1, 1) := by decide +kernel
theorem dX3_painted_2 : decode cX3_painted 2 = .ok (.invokestatic 103, 3) := by decide +kernel
theorem dX3_painted_5 : decode cX3_painted 5 = .ok (.iload_n 0, 1) := by decide +kernel
theorem dX3_painted_6 : decode cX3_painted 6 = .ok (.iconst 2, 1) := by decide +kernel
theorem dX3_painted_7 : decode cX3_painted 7 = .ok (.invokestatic 103, 3) := by decide +kernel
theorem dX3_painted_10 : decode cX3_painted 10 = .ok (.ior, 1) := by decide +kernel
theorem dX3_painted_11 : decode cX3_painted 11 = .ok (.iload_n 0, 1) := by decide +kernel
theorem dX3_painted_12 : decode cX3_painted 12 = .ok (.iconst 3, 1) := by decide +kernel
theorem dX3_painted_13 : decode cX3_painted 13 = .ok (.invokestatic 103, 3) := by decide +kernel
theorem dX3_painted_16 : decode cX3_painted 16 = .ok (.ior, 1) := by decide +kernel
theorem dX3_painted_17 : decode cX3_painted 17 = .ok (.ireturn, 1) := by decide +kernel
def fX3_painted (p0 : Int32) : Option (Int32) :=
((fX3_stonesWith p0 ((1 : Int32))).bind fun r1 =>
((fX3_stonesWith p0 ((2 : Int32))).bind fun r3 =>
((fX3_stonesWith p0 ((3 : Int32))).bind fun r5 =>
(some ((r1 ||| r3) ||| r5)))))
def oX3_painted (D : jv_D)  (r : Int32) : va_W := []
set_option maxHeartbeats 40000000 in
set_option maxRecDepth 100000 in
theorem mX3_painted (l : Launch) (D : jv_D) (p0 : Int32) (r : Int32) (h : fX3_painted p0 = some r) : MM l yX3_painted (jW yX3_painted cX3_painted 1 (some .int)) ({ frames := 1, cells := 0, slots := 0, locals := 21 }) D [.int p0] [] (some (.int r)) (oX3_painted D  r) := by
  refine mn_of hpX3_painted (Nat.le_of_ble_eq_true rfl) ?_
  intro X hXl C E0 hN
  subst hXl
  replace C : JC D X 1 RX3 cX3_painted ({ frames := 1, cells := 0, slots := 0, locals := 21 }) := C
  have E : JE D X 0 0 (some .int) (fun _ : Unit => (some (.int r))) (fun _ : Unit => (oX3_painted D  r)) := E0 0 0 rfl rfl
  clear E0 hN
  show JJ D X 1 0 0 0 [(0, .int p0)] [] []
  unfold fX3_painted at h
  refine j_iload_n C dX3_painted_0 rfl 0 rfl ?_
  refine j_iconst C dX3_painted_1 (v := (1 : Int32)) (by decide) ?_
  obtain ⟨r1, q2, h⟩ := jl_bind h
  refine j_cS1 C (mX3_stonesWith (jlaunch X) D p0 ((1 : Int32)) r1 q2) bmX3_103 btX3_stonesWith bzX3 bcX3_stonesWith hX3_stonesWith (rest := []) rfl (jroom_of rfl) [] [] [] (wr := []) (ws2 := []) rfl rfl rfl rfl rfl (Nat.le_of_ble_eq_true rfl) dX3_painted_2 ?_
  refine j_iload_n C dX3_painted_5 rfl 0 rfl ?_
  refine j_iconst C dX3_painted_6 (v := (2 : Int32)) (by decide) ?_
  obtain ⟨r3, q4, h⟩ := jl_bind h
  refine j_cS1 C (mX3_stonesWith (jlaunch X) D p0 ((2 : Int32)) r3 q4) bmX3_103 btX3_stonesWith bzX3 bcX3_stonesWith hX3_stonesWith (rest := [.int r1]) rfl (jroom_of rfl) [] [] [] (wr := []) (ws2 := []) rfl rfl rfl rfl rfl (Nat.le_of_ble_eq_true rfl) dX3_painted_7 ?_
  refine j_ior C dX3_painted_10 ?_
  refine j_iload_n C dX3_painted_11 rfl 0 rfl ?_
  refine j_iconst C dX3_painted_12 (v := (3 : Int32)) (by decide) ?_
  obtain ⟨r5, q6, h⟩ := jl_bind h
  refine j_cS1 C (mX3_stonesWith (jlaunch X) D p0 ((3 : Int32)) r5 q6) bmX3_103 btX3_stonesWith bzX3 bcX3_stonesWith hX3_stonesWith (rest := [.int (r1 ||| r3)]) rfl (jroom_of rfl) [] [] [] (wr := []) (ws2 := []) rfl rfl rfl rfl rfl (Nat.le_of_ble_eq_true rfl) dX3_painted_13 ?_
  refine j_ior C dX3_painted_16 ?_
  exact j_iretR C (r := r) (rtf := fun r => (some (.int r))) (wff := fun r => (oX3_painted D  r)) E h rfl rfl dX3_painted_17
theorem dX3_bare_0 : decode cX3_bare 0 = .ok (.aload_n 0, 1) := by decide +kernel
theorem dX3_bare_1 : decode cX3_bare 1 = .ok (.getfield 69, 3) := by decide +kernel
theorem dX3_bare_4 : decode cX3_bare 4 = .ok (.aload_n 0, 1) := by decide +kernel
theorem dX3_bare_5 : decode cX3_bare 5 = .ok (.getfield 43, 3) := by decide +kernel
theorem dX3_bare_8 : decode cX3_bare 8 = .ok (.iconst (-1), 1) := by decide +kernel
theorem dX3_bare_9 : decode cX3_bare 9 = .ok (.ixor, 1) := by decide +kernel
theorem dX3_bare_10 : decode cX3_bare 10 = .ok (.iand, 1) := by decide +kernel
theorem dX3_bare_11 : decode cX3_bare 11 = .ok (.iload_n 1, 1) := by decide +kernel
theorem dX3_bare_12 : decode cX3_bare 12 = .ok (.invokestatic 95, 3) := by decide +kernel
theorem dX3_bare_15 : decode cX3_bare 15 = .ok (.iconst (-1), 1) := by decide +kernel
theorem dX3_bare_16 : decode cX3_bare 16 = .ok (.ixor, 1) := by decide +kernel
theorem dX3_bare_17 : decode cX3_bare 17 = .ok (.iand, 1) := by decide +kernel
theorem dX3_bare_18 : decode cX3_bare 18 = .ok (.ireturn, 1) := by decide +kernel
def fX3_bare (t_shut : Int32) (t_all : Int32) (p1 : Int32) : Option (Int32) :=
((fX3_painted p1).bind fun r1 =>
(some ((t_all &&& (t_shut ^^^ ((-1 : Int32)))) &&& (r1 ^^^ ((-1 : Int32))))))
def oX3_bare (D : jv_D) (h_t : Nat) (h_t_ruledOut : Nat) (t_rows : Int32) (t_columns : Int32) (t_paints : Int32) (t_apart : Int32) (t_paintsOf0 : Int32) (t_paintsOf1 : Int32) (t_old : Int32) (t_shut : Int32) (t_all : Int32) (t_firstColumn : Int32) (t_fitsAtFirst : Int32) (t_paintingsOf0 : Int32) (t_paintingsOf1 : Int32) (r : Int32) : va_W := [(h_t, .inr (2, [.int t_rows, .int t_columns, .int t_paints, .int t_apart, .int t_paintsOf0, .int t_paintsOf1, .int t_old, .int t_shut, .int t_all, .int t_firstColumn, .int t_fitsAtFirst, .int t_paintingsOf0, .int t_paintingsOf1, .ref h_t_ruledOut]))]
set_option maxHeartbeats 40000000 in
set_option maxRecDepth 100000 in
theorem mX3_bare (l : Launch) (D : jv_D) (h_t : Nat) (h_t_ruledOut : Nat) (t_rows : Int32) (t_columns : Int32) (t_paints : Int32) (t_apart : Int32) (t_paintsOf0 : Int32) (t_paintsOf1 : Int32) (t_old : Int32) (t_shut : Int32) (t_all : Int32) (t_firstColumn : Int32) (t_fitsAtFirst : Int32) (t_paintingsOf0 : Int32) (t_paintingsOf1 : Int32) (p1 : Int32) (r : Int32) (h : fX3_bare t_shut t_all p1 = some r) : MM l yX3_bare (jW yX3_bare cX3_bare 2 (some .int)) ({ frames := 2, cells := 0, slots := 0, locals := 41 }) D [.ref h_t, .int p1] [(h_t, .inr (2, [.int t_rows, .int t_columns, .int t_paints, .int t_apart, .int t_paintsOf0, .int t_paintsOf1, .int t_old, .int t_shut, .int t_all, .int t_firstColumn, .int t_fitsAtFirst, .int t_paintingsOf0, .int t_paintingsOf1, .ref h_t_ruledOut]))] (some (.int r)) (oX3_bare D h_t h_t_ruledOut t_rows t_columns t_paints t_apart t_paintsOf0 t_paintsOf1 t_old t_shut t_all t_firstColumn t_fitsAtFirst t_paintingsOf0 t_paintingsOf1 r) := by
  refine mn_of hpX3_bare (Nat.le_of_ble_eq_true rfl) ?_
  intro X hXl C E0 hN
  subst hXl
  replace C : JC D X 2 RX3 cX3_bare ({ frames := 2, cells := 0, slots := 0, locals := 41 }) := C
  have E : JE D X 0 0 (some .int) (fun _ : Unit => (some (.int r))) (fun _ : Unit => (oX3_bare D h_t h_t_ruledOut t_rows t_columns t_paints t_apart t_paintsOf0 t_paintsOf1 t_old t_shut t_all t_firstColumn t_fitsAtFirst t_paintingsOf0 t_paintingsOf1 r)) := E0 0 0 rfl rfl
  clear E0 hN
  show JJ D X 2 0 0 0 [(0, .ref h_t), (1, .int p1)] [] [(h_t, .inr (2, [.int t_rows, .int t_columns, .int t_paints, .int t_apart, .int t_paintsOf0, .int t_paintsOf1, .int t_old, .int t_shut, .int t_all, .int t_firstColumn, .int t_fitsAtFirst, .int t_paintingsOf0, .int t_paintingsOf1, .ref h_t_ruledOut]))]
  unfold fX3_bare at h
  refine j_aload_n C dX3_bare_0 rfl 0 rfl ?_
  refine j_get C ibX3 (ci := 2) 0 rfl rfl 8 (by decide) bfX3_69 (v := .int t_all) rfl dX3_bare_1 ?_
  refine j_aload_n C dX3_bare_4 rfl 0 rfl ?_
  refine j_get C ibX3 (ci := 2) 0 rfl rfl 7 (by decide) bfX3_43 (v := .int t_shut) rfl dX3_bare_5 ?_
  refine j_iconst C dX3_bare_8 (v := (-1 : Int32)) (by decide) ?_
  refine j_ixor C dX3_bare_9 ?_
  refine j_iand C dX3_bare_10 ?_
  refine j_iload_n C dX3_bare_11 rfl 1 rfl ?_
  obtain ⟨r1, q2, h⟩ := jl_bind h
  refine j_cS1 C (mX3_painted (jlaunch X) D p1 r1 q2) bmX3_95 btX3_painted bzX3 bcX3_painted hX3_painted (rest := [.int (t_all &&& (t_shut ^^^ ((-1 : Int32))))]) rfl (jroom_of rfl) [] [0] [0] (wr := [(h_t, .inr (2, [.int t_rows, .int t_columns, .int t_paints, .int t_apart, .int t_paintsOf0, .int t_paintsOf1, .int t_old, .int t_shut, .int t_all, .int t_firstColumn, .int t_fitsAtFirst, .int t_paintingsOf0, .int t_paintingsOf1, .ref h_t_ruledOut]))]) (ws2 := [(h_t, .inr (2, [.int t_rows, .int t_columns, .int t_paints, .int t_apart, .int t_paintsOf0, .int t_paintsOf1, .int t_old, .int t_shut, .int t_all, .int t_firstColumn, .int t_fitsAtFirst, .int t_paintingsOf0, .int t_paintingsOf1, .ref h_t_ruledOut]))]) rfl rfl rfl rfl rfl (Nat.le_of_ble_eq_true rfl) dX3_bare_12 ?_
  refine j_iconst C dX3_bare_15 (v := (-1 : Int32)) (by decide) ?_
  refine j_ixor C dX3_bare_16 ?_
  refine j_iand C dX3_bare_17 ?_
  exact j_iretR C (r := r) (rtf := fun r => (some (.int r))) (wff := fun r => (oX3_bare D h_t h_t_ruledOut t_rows t_columns t_paints t_apart t_paintsOf0 t_paintsOf1 t_old t_shut t_all t_firstColumn t_fitsAtFirst t_paintingsOf0 t_paintingsOf1 r)) E h rfl rfl dX3_bare_18
theorem dX3_fittingAfter_0 : decode cX3_fittingAfter 0 = .ok (.iload_n 2, 1) := by decide +kernel
theorem dX3_fittingAfter_1 : decode cX3_fittingAfter 1 = .ok (.iconst 1, 1) := by decide +kernel
theorem dX3_fittingAfter_2 : decode cX3_fittingAfter 2 = .ok (.isub, 1) := by decide +kernel
theorem dX3_fittingAfter_3 : decode cX3_fittingAfter 3 = .ok (.invokestatic 98, 3) := by decide +kernel
theorem dX3_fittingAfter_6 : decode cX3_fittingAfter 6 = .ok (.istore_n 3, 1) := by decide +kernel
theorem dX3_fittingAfter_7 : decode cX3_fittingAfter 7 = .ok (.iload_n 3, 1) := by decide +kernel
theorem dX3_fittingAfter_8 : decode cX3_fittingAfter 8 = .ok (.aload_n 0, 1) := by decide +kernel
theorem dX3_fittingAfter_9 : decode cX3_fittingAfter 9 = .ok (.getfield 9, 3) := by decide +kernel
theorem dX3_fittingAfter_12 : decode cX3_fittingAfter 12 = .ok (.arraylength, 1) := by decide +kernel
theorem dX3_fittingAfter_13 : decode cX3_fittingAfter 13 = .ok (.if_icmp .ge 16, 3) := by decide +kernel
theorem dX3_fittingAfter_16 : decode cX3_fittingAfter 16 = .ok (.iload_n 1, 1) := by decide +kernel
theorem dX3_fittingAfter_17 : decode cX3_fittingAfter 17 = .ok (.aload_n 0, 1) := by decide +kernel
theorem dX3_fittingAfter_18 : decode cX3_fittingAfter 18 = .ok (.getfield 9, 3) := by decide +kernel
theorem dX3_fittingAfter_21 : decode cX3_fittingAfter 21 = .ok (.iload_n 3, 1) := by decide +kernel
theorem dX3_fittingAfter_22 : decode cX3_fittingAfter 22 = .ok (.iaload, 1) := by decide +kernel
theorem dX3_fittingAfter_23 : decode cX3_fittingAfter 23 = .ok (.iconst (-1), 1) := by decide +kernel
theorem dX3_fittingAfter_24 : decode cX3_fittingAfter 24 = .ok (.ixor, 1) := by decide +kernel
theorem dX3_fittingAfter_25 : decode cX3_fittingAfter 25 = .ok (.iand, 1) := by decide +kernel
theorem dX3_fittingAfter_26 : decode cX3_fittingAfter 26 = .ok (.goto 4, 3) := by decide +kernel
theorem dX3_fittingAfter_29 : decode cX3_fittingAfter 29 = .ok (.iconst 0, 1) := by decide +kernel
theorem dX3_fittingAfter_30 : decode cX3_fittingAfter 30 = .ok (.ireturn, 1) := by decide +kernel
def fX3_fittingAfter (t_ruledOut_ : Nat → Int32) (p1 : Int32) (p2 : Int32) : Option (Int32) :=
((fJ6_bitCount_0f7a4 (p2 - ((1 : Int32)))).bind fun r1 =>
(if ((27 : Int32)) ≤ r1 then
(some ((0 : Int32)))
else
(if r1 < 0 ∨ 27 ≤ r1.toNatClampNeg then none else
(some (p1 &&& ((t_ruledOut_ r1.toNatClampNeg) ^^^ ((-1 : Int32))))))))
def oX3_fittingAfter (D : jv_D) (h_t : Nat) (h_t_ruledOut : Nat) (t_rows : Int32) (t_columns : Int32) (t_paints : Int32) (t_apart : Int32) (t_paintsOf0 : Int32) (t_paintsOf1 : Int32) (t_old : Int32) (t_shut : Int32) (t_all : Int32) (t_firstColumn : Int32) (t_fitsAtFirst : Int32) (t_paintingsOf0 : Int32) (t_paintingsOf1 : Int32) (t_ruledOut_ : Nat → Int32) (r : Int32) : va_W := [(h_t, .inr (2, [.int t_rows, .int t_columns, .int t_paints, .int t_apart, .int t_paintsOf0, .int t_paintsOf1, .int t_old, .int t_shut, .int t_all, .int t_firstColumn, .int t_fitsAtFirst, .int t_paintingsOf0, .int t_paintingsOf1, .ref h_t_ruledOut])), (h_t_ruledOut, jI D 27 t_ruledOut_)]
set_option maxHeartbeats 40000000 in
set_option maxRecDepth 100000 in
theorem mX3_fittingAfter (l : Launch) (D : jv_D) (h_t : Nat) (h_t_ruledOut : Nat) (t_rows : Int32) (t_columns : Int32) (t_paints : Int32) (t_apart : Int32) (t_paintsOf0 : Int32) (t_paintsOf1 : Int32) (t_old : Int32) (t_shut : Int32) (t_all : Int32) (t_firstColumn : Int32) (t_fitsAtFirst : Int32) (t_paintingsOf0 : Int32) (t_paintingsOf1 : Int32) (t_ruledOut_ : Nat → Int32) (p1 : Int32) (p2 : Int32) (r : Int32) (h : fX3_fittingAfter t_ruledOut_ p1 p2 = some r) : MM l yX3_fittingAfter (jW yX3_fittingAfter cX3_fittingAfter 4 (some .int)) ({ frames := 1, cells := 0, slots := 0, locals := 20 }) D [.ref h_t, .int p1, .int p2] [(h_t, .inr (2, [.int t_rows, .int t_columns, .int t_paints, .int t_apart, .int t_paintsOf0, .int t_paintsOf1, .int t_old, .int t_shut, .int t_all, .int t_firstColumn, .int t_fitsAtFirst, .int t_paintingsOf0, .int t_paintingsOf1, .ref h_t_ruledOut])), (h_t_ruledOut, jI D 27 t_ruledOut_)] (some (.int r)) (oX3_fittingAfter D h_t h_t_ruledOut t_rows t_columns t_paints t_apart t_paintsOf0 t_paintsOf1 t_old t_shut t_all t_firstColumn t_fitsAtFirst t_paintingsOf0 t_paintingsOf1 t_ruledOut_ r) := by
  refine mn_of hpX3_fittingAfter (Nat.le_of_ble_eq_true rfl) ?_
  intro X hXl C E0 hN
  subst hXl
  replace C : JC D X 4 RX3 cX3_fittingAfter ({ frames := 1, cells := 0, slots := 0, locals := 20 }) := C
  have E : JE D X 0 0 (some .int) (fun _ : Unit => (some (.int r))) (fun _ : Unit => (oX3_fittingAfter D h_t h_t_ruledOut t_rows t_columns t_paints t_apart t_paintsOf0 t_paintsOf1 t_old t_shut t_all t_firstColumn t_fitsAtFirst t_paintingsOf0 t_paintingsOf1 t_ruledOut_ r)) := E0 0 0 rfl rfl
  clear E0 hN
  show JJ D X 4 0 0 0 [(0, .ref h_t), (1, .int p1), (2, .int p2)] [] [(h_t, .inr (2, [.int t_rows, .int t_columns, .int t_paints, .int t_apart, .int t_paintsOf0, .int t_paintsOf1, .int t_old, .int t_shut, .int t_all, .int t_firstColumn, .int t_fitsAtFirst, .int t_paintingsOf0, .int t_paintingsOf1, .ref h_t_ruledOut])), (h_t_ruledOut, jI D 27 t_ruledOut_)]
  unfold fX3_fittingAfter at h
  refine j_iload_n C dX3_fittingAfter_0 rfl 2 rfl ?_
  refine j_iconst C dX3_fittingAfter_1 (v := (1 : Int32)) (by decide) ?_
  refine j_isub C dX3_fittingAfter_2 ?_
  obtain ⟨r1, q2, h⟩ := jl_bind h
  refine j_cS1 C (mJ6_bitCount_0f7a4 (jlaunch X) D (p2 - ((1 : Int32))) r1 q2) bmX3_98 btJ6_bitCount_0f7a4 bzJ6 bcJ6_bitCount_0f7a4 hJ6_bitCount_0f7a4 (rest := []) rfl (jroom_of rfl) [] [0, 1] [0, 1] (wr := [(h_t, .inr (2, [.int t_rows, .int t_columns, .int t_paints, .int t_apart, .int t_paintsOf0, .int t_paintsOf1, .int t_old, .int t_shut, .int t_all, .int t_firstColumn, .int t_fitsAtFirst, .int t_paintingsOf0, .int t_paintingsOf1, .ref h_t_ruledOut])), (h_t_ruledOut, jI D 27 t_ruledOut_)]) (ws2 := [(h_t, .inr (2, [.int t_rows, .int t_columns, .int t_paints, .int t_apart, .int t_paintsOf0, .int t_paintsOf1, .int t_old, .int t_shut, .int t_all, .int t_firstColumn, .int t_fitsAtFirst, .int t_paintingsOf0, .int t_paintingsOf1, .ref h_t_ruledOut])), (h_t_ruledOut, jI D 27 t_ruledOut_)]) rfl rfl rfl rfl rfl (Nat.le_of_ble_eq_true rfl) dX3_fittingAfter_3 ?_
  refine j_istore_nC C dX3_fittingAfter_6 rfl (lv' := [(3, .int r1), (0, .ref h_t), (1, .int p1), (2, .int p2)]) (by decide) rfl ?_
  refine j_iload_n C dX3_fittingAfter_7 rfl 0 rfl ?_
  refine j_aload_n C dX3_fittingAfter_8 rfl 1 rfl ?_
  refine j_get C ibX3 (ci := 2) 0 rfl rfl 13 (by decide) bfX3_9 (v := .ref h_t_ruledOut) rfl dX3_fittingAfter_9 ?_
  refine j_ilen C 1 rfl (v := (27 : Int32)) (by decide) dX3_fittingAfter_12 ?_
  refine j_icmp_ge C (tgt := 29) dX3_fittingAfter_13 (by decide) h (fun c3 h => ?_) (fun c3 h => ?_)
  · refine j_iconst C dX3_fittingAfter_29 (v := (0 : Int32)) (by decide) ?_
    exact j_iretR C (r := r) (rtf := fun r => (some (.int r))) (wff := fun r => (oX3_fittingAfter D h_t h_t_ruledOut t_rows t_columns t_paints t_apart t_paintsOf0 t_paintsOf1 t_old t_shut t_all t_firstColumn t_fitsAtFirst t_paintingsOf0 t_paintingsOf1 t_ruledOut_ r)) E h rfl rfl dX3_fittingAfter_30
  · refine j_iload_n C dX3_fittingAfter_16 rfl 2 rfl ?_
    refine j_aload_n C dX3_fittingAfter_17 rfl 1 rfl ?_
    refine j_get C ibX3 (ci := 2) 0 rfl rfl 13 (by decide) bfX3_9 (v := .ref h_t_ruledOut) rfl dX3_fittingAfter_18 ?_
    refine j_iload_n C dX3_fittingAfter_21 rfl 0 rfl ?_
    refine jl_inb h (fun b4 h => ?_)
    refine j_iald C 1 rfl b4 dX3_fittingAfter_22 ?_
    refine j_iconst C dX3_fittingAfter_23 (v := (-1 : Int32)) (by decide) ?_
    refine j_ixor C dX3_fittingAfter_24 ?_
    refine j_iand C dX3_fittingAfter_25 ?_
    refine j_goto C dX3_fittingAfter_26 (tgt := 30) (by decide) ?_
    exact j_iretR C (r := r) (rtf := fun r => (some (.int r))) (wff := fun r => (oX3_fittingAfter D h_t h_t_ruledOut t_rows t_columns t_paints t_apart t_paintsOf0 t_paintsOf1 t_old t_shut t_all t_firstColumn t_fitsAtFirst t_paintingsOf0 t_paintingsOf1 t_ruledOut_ r)) E h rfl rfl dX3_fittingAfter_30
theorem dX3_painting_0 : decode cX3_painting 0 = .ok (.iconst 1, 1) := by decide +kernel
theorem dX3_painting_1 : decode cX3_painting 1 = .ok (.bipush 9, 2) := by decide +kernel
theorem dX3_painting_3 : decode cX3_painting 3 = .ok (.iload_n 1, 1) := by decide +kernel
theorem dX3_painting_4 : decode cX3_painting 4 = .ok (.iconst 1, 1) := by decide +kernel
theorem dX3_painting_5 : decode cX3_painting 5 = .ok (.isub, 1) := by decide +kernel
theorem dX3_painting_6 : decode cX3_painting 6 = .ok (.imul, 1) := by decide +kernel
theorem dX3_painting_7 : decode cX3_painting 7 = .ok (.iload_n 0, 1) := by decide +kernel
theorem dX3_painting_8 : decode cX3_painting 8 = .ok (.iadd, 1) := by decide +kernel
theorem dX3_painting_9 : decode cX3_painting 9 = .ok (.ishl, 1) := by decide +kernel
theorem dX3_painting_10 : decode cX3_painting 10 = .ok (.ireturn, 1) := by decide +kernel
def fX3_painting (p0 : Int32) (p1 : Int32) : Option (Int32) :=
(some (((1 : Int32)) <<< (((((9 : Int32)) * (p1 - ((1 : Int32)))) + p0) &&& 31)))
def oX3_painting (D : jv_D)  (r : Int32) : va_W := []
set_option maxHeartbeats 40000000 in
set_option maxRecDepth 100000 in
theorem mX3_painting (l : Launch) (D : jv_D) (p0 : Int32) (p1 : Int32) (r : Int32) (h : fX3_painting p0 p1 = some r) : MM l yX3_painting (jW yX3_painting cX3_painting 2 (some .int)) ({ frames := 0, cells := 0, slots := 0, locals := 0 }) D [.int p0, .int p1] [] (some (.int r)) (oX3_painting D  r) := by
  refine mn_of hpX3_painting (Nat.le_of_ble_eq_true rfl) ?_
  intro X hXl C E0 hN
  subst hXl
  replace C : JC D X 2 RX3 cX3_painting ({ frames := 0, cells := 0, slots := 0, locals := 0 }) := C
  have E : JE D X 0 0 (some .int) (fun _ : Unit => (some (.int r))) (fun _ : Unit => (oX3_painting D  r)) := E0 0 0 rfl rfl
  clear E0 hN
  show JJ D X 2 0 0 0 [(0, .int p0), (1, .int p1)] [] []
  unfold fX3_painting at h
  refine j_iconst C dX3_painting_0 (v := (1 : Int32)) (by decide) ?_
  refine j_bipush C dX3_painting_1 (v := (9 : Int32)) (by decide) ?_
  refine j_iload_n C dX3_painting_3 rfl 1 rfl ?_
  refine j_iconst C dX3_painting_4 (v := (1 : Int32)) (by decide) ?_
  refine j_isub C dX3_painting_5 ?_
  refine j_imul C dX3_painting_6 ?_
  refine j_iload_n C dX3_painting_7 rfl 0 rfl ?_
  refine j_iadd C dX3_painting_8 ?_
  refine j_ishl C dX3_painting_9 ?_
  exact j_iretR C (r := r) (rtf := fun r => (some (.int r))) (wff := fun r => (oX3_painting D  r)) E h rfl rfl dX3_painting_10
theorem dX3_allPaints_0 : decode cX3_allPaints 0 = .ok (.iconst 1, 1) := by decide +kernel
theorem dX3_allPaints_1 : decode cX3_allPaints 1 = .ok (.aload_n 0, 1) := by decide +kernel
theorem dX3_allPaints_2 : decode cX3_allPaints 2 = .ok (.getfield 28, 3) := by decide +kernel
theorem dX3_allPaints_5 : decode cX3_allPaints 5 = .ok (.ishl, 1) := by decide +kernel
theorem dX3_allPaints_6 : decode cX3_allPaints 6 = .ok (.iconst 1, 1) := by decide +kernel
theorem dX3_allPaints_7 : decode cX3_allPaints 7 = .ok (.isub, 1) := by decide +kernel
theorem dX3_allPaints_8 : decode cX3_allPaints 8 = .ok (.ireturn, 1) := by decide +kernel
def fX3_allPaints (t_paints : Int32) : Option (Int32) :=
(some ((((1 : Int32)) <<< (t_paints &&& 31)) - ((1 : Int32))))
def oX3_allPaints (D : jv_D) (h_t : Nat) (h_t_ruledOut : Nat) (t_rows : Int32) (t_columns : Int32) (t_paints : Int32) (t_apart : Int32) (t_paintsOf0 : Int32) (t_paintsOf1 : Int32) (t_old : Int32) (t_shut : Int32) (t_all : Int32) (t_firstColumn : Int32) (t_fitsAtFirst : Int32) (t_paintingsOf0 : Int32) (t_paintingsOf1 : Int32) (r : Int32) : va_W := [(h_t, .inr (2, [.int t_rows, .int t_columns, .int t_paints, .int t_apart, .int t_paintsOf0, .int t_paintsOf1, .int t_old, .int t_shut, .int t_all, .int t_firstColumn, .int t_fitsAtFirst, .int t_paintingsOf0, .int t_paintingsOf1, .ref h_t_ruledOut]))]
set_option maxHeartbeats 40000000 in
set_option maxRecDepth 100000 in
theorem mX3_allPaints (l : Launch) (D : jv_D) (h_t : Nat) (h_t_ruledOut : Nat) (t_rows : Int32) (t_columns : Int32) (t_paints : Int32) (t_apart : Int32) (t_paintsOf0 : Int32) (t_paintsOf1 : Int32) (t_old : Int32) (t_shut : Int32) (t_all : Int32) (t_firstColumn : Int32) (t_fitsAtFirst : Int32) (t_paintingsOf0 : Int32) (t_paintingsOf1 : Int32) (r : Int32) (h : fX3_allPaints t_paints = some r) : MM l yX3_allPaints (jW yX3_allPaints cX3_allPaints 1 (some .int)) ({ frames := 0, cells := 0, slots := 0, locals := 0 }) D [.ref h_t] [(h_t, .inr (2, [.int t_rows, .int t_columns, .int t_paints, .int t_apart, .int t_paintsOf0, .int t_paintsOf1, .int t_old, .int t_shut, .int t_all, .int t_firstColumn, .int t_fitsAtFirst, .int t_paintingsOf0, .int t_paintingsOf1, .ref h_t_ruledOut]))] (some (.int r)) (oX3_allPaints D h_t h_t_ruledOut t_rows t_columns t_paints t_apart t_paintsOf0 t_paintsOf1 t_old t_shut t_all t_firstColumn t_fitsAtFirst t_paintingsOf0 t_paintingsOf1 r) := by
  refine mn_of hpX3_allPaints (Nat.le_of_ble_eq_true rfl) ?_
  intro X hXl C E0 hN
  subst hXl
  replace C : JC D X 1 RX3 cX3_allPaints ({ frames := 0, cells := 0, slots := 0, locals := 0 }) := C
  have E : JE D X 0 0 (some .int) (fun _ : Unit => (some (.int r))) (fun _ : Unit => (oX3_allPaints D h_t h_t_ruledOut t_rows t_columns t_paints t_apart t_paintsOf0 t_paintsOf1 t_old t_shut t_all t_firstColumn t_fitsAtFirst t_paintingsOf0 t_paintingsOf1 r)) := E0 0 0 rfl rfl
  clear E0 hN
  show JJ D X 1 0 0 0 [(0, .ref h_t)] [] [(h_t, .inr (2, [.int t_rows, .int t_columns, .int t_paints, .int t_apart, .int t_paintsOf0, .int t_paintsOf1, .int t_old, .int t_shut, .int t_all, .int t_firstColumn, .int t_fitsAtFirst, .int t_paintingsOf0, .int t_paintingsOf1, .ref h_t_ruledOut]))]
  unfold fX3_allPaints at h
  refine j_iconst C dX3_allPaints_0 (v := (1 : Int32)) (by decide) ?_
  refine j_aload_n C dX3_allPaints_1 rfl 0 rfl ?_
  refine j_get C ibX3 (ci := 2) 0 rfl rfl 2 (by decide) bfX3_28 (v := .int t_paints) rfl dX3_allPaints_2 ?_
  refine j_ishl C dX3_allPaints_5 ?_
  refine j_iconst C dX3_allPaints_6 (v := (1 : Int32)) (by decide) ?_
  refine j_isub C dX3_allPaints_7 ?_
  exact j_iretR C (r := r) (rtf := fun r => (some (.int r))) (wff := fun r => (oX3_allPaints D h_t h_t_ruledOut t_rows t_columns t_paints t_apart t_paintsOf0 t_paintsOf1 t_old t_shut t_all t_firstColumn t_fitsAtFirst t_paintingsOf0 t_paintingsOf1 r)) E h rfl rfl dX3_allPaints_8
theorem dX3_paintsOf_0 : decode cX3_paintsOf 0 = .ok (.iload_n 1, 1) := by decide +kernel
theorem dX3_paintsOf_1 : decode cX3_paintsOf 1 = .ok (.ifCond .ne 10, 3) := by decide +kernel
theorem dX3_paintsOf_4 : decode cX3_paintsOf 4 = .ok (.aload_n 0, 1) := by decide +kernel
theorem dX3_paintsOf_5 : decode cX3_paintsOf 5 = .ok (.getfield 34, 3) := by decide +kernel
theorem dX3_paintsOf_8 : decode cX3_paintsOf 8 = .ok (.goto 7, 3) := by decide +kernel
theorem dX3_paintsOf_11 : decode cX3_paintsOf 11 = .ok (.aload_n 0, 1) := by decide +kernel
theorem dX3_paintsOf_12 : decode cX3_paintsOf 12 = .ok (.getfield 37, 3) := by decide +kernel
theorem dX3_paintsOf_15 : decode cX3_paintsOf 15 = .ok (.aload_n 0, 1) := by decide +kernel
theorem dX3_paintsOf_16 : decode cX3_paintsOf 16 = .ok (.invokevirtual 50, 3) := by decide +kernel
theorem dX3_paintsOf_19 : decode cX3_paintsOf 19 = .ok (.iand, 1) := by decide +kernel
theorem dX3_paintsOf_20 : decode cX3_paintsOf 20 = .ok (.ireturn, 1) := by decide +kernel
def fX3_paintsOf_15 (t_paints : Int32) (t_paintsOf0 : Int32) (t_paintsOf1 : Int32) (p1 : Int32)  (s2 : Int32) : Option (Int32) :=
((fX3_allPaints t_paints).bind fun r3 =>
(some (s2 &&& r3)))
def fX3_paintsOf (t_paints : Int32) (t_paintsOf0 : Int32) (t_paintsOf1 : Int32) (p1 : Int32) : Option (Int32) :=
(if p1 = 0 then
(fX3_paintsOf_15 t_paints t_paintsOf0 t_paintsOf1 p1 t_paintsOf0)
else
(fX3_paintsOf_15 t_paints t_paintsOf0 t_paintsOf1 p1 t_paintsOf1))
def oX3_paintsOf (D : jv_D) (h_t : Nat) (h_t_ruledOut : Nat) (t_rows : Int32) (t_columns : Int32) (t_paints : Int32) (t_apart : Int32) (t_paintsOf0 : Int32) (t_paintsOf1 : Int32) (t_old : Int32) (t_shut : Int32) (t_all : Int32) (t_firstColumn : Int32) (t_fitsAtFirst : Int32) (t_paintingsOf0 : Int32) (t_paintingsOf1 : Int32) (r : Int32) : va_W := [(h_t, .inr (2, [.int t_rows, .int t_columns, .int t_paints, .int t_apart, .int t_paintsOf0, .int t_paintsOf1, .int t_old, .int t_shut, .int t_all, .int t_firstColumn, .int t_fitsAtFirst, .int t_paintingsOf0, .int t_paintingsOf1, .ref h_t_ruledOut]))]
set_option maxHeartbeats 40000000 in
set_option maxRecDepth 100000 in
theorem mX3_paintsOf (l : Launch) (D : jv_D) (h_t : Nat) (h_t_ruledOut : Nat) (t_rows : Int32) (t_columns : Int32) (t_paints : Int32) (t_apart : Int32) (t_paintsOf0 : Int32) (t_paintsOf1 : Int32) (t_old : Int32) (t_shut : Int32) (t_all : Int32) (t_firstColumn : Int32) (t_fitsAtFirst : Int32) (t_paintingsOf0 : Int32) (t_paintingsOf1 : Int32) (p1 : Int32) (r : Int32) (h : fX3_paintsOf t_paints t_paintsOf0 t_paintsOf1 p1 = some r) : MM l yX3_paintsOf (jW yX3_paintsOf cX3_paintsOf 2 (some .int)) ({ frames := 1, cells := 0, slots := 0, locals := 20 }) D [.ref h_t, .int p1] [(h_t, .inr (2, [.int t_rows, .int t_columns, .int t_paints, .int t_apart, .int t_paintsOf0, .int t_paintsOf1, .int t_old, .int t_shut, .int t_all, .int t_firstColumn, .int t_fitsAtFirst, .int t_paintingsOf0, .int t_paintingsOf1, .ref h_t_ruledOut]))] (some (.int r)) (oX3_paintsOf D h_t h_t_ruledOut t_rows t_columns t_paints t_apart t_paintsOf0 t_paintsOf1 t_old t_shut t_all t_firstColumn t_fitsAtFirst t_paintingsOf0 t_paintingsOf1 r) := by
  refine mn_of hpX3_paintsOf (Nat.le_of_ble_eq_true rfl) ?_
  intro X hXl C E0 hN
  subst hXl
  replace C : JC D X 2 RX3 cX3_paintsOf ({ frames := 1, cells := 0, slots := 0, locals := 20 }) := C
  have E : JE D X 0 0 (some .int) (fun _ : Unit => (some (.int r))) (fun _ : Unit => (oX3_paintsOf D h_t h_t_ruledOut t_rows t_columns t_paints t_apart t_paintsOf0 t_paintsOf1 t_old t_shut t_all t_firstColumn t_fitsAtFirst t_paintingsOf0 t_paintingsOf1 r)) := E0 0 0 rfl rfl
  clear E0 hN
  show JJ D X 2 0 0 0 [(0, .ref h_t), (1, .int p1)] [] [(h_t, .inr (2, [.int t_rows, .int t_columns, .int t_paints, .int t_apart, .int t_paintsOf0, .int t_paintsOf1, .int t_old, .int t_shut, .int t_all, .int t_firstColumn, .int t_fitsAtFirst, .int t_paintingsOf0, .int t_paintingsOf1, .ref h_t_ruledOut]))]
  unfold fX3_paintsOf at h
  have L15 : ∀ (s2 : Int32), fX3_paintsOf_15 t_paints t_paintsOf0 t_paintsOf1 p1  s2 = some r → JJ D X 2 0 0 15 [(0, .ref h_t)] [.int s2] [(h_t, .inr (2, [.int t_rows, .int t_columns, .int t_paints, .int t_apart, .int t_paintsOf0, .int t_paintsOf1, .int t_old, .int t_shut, .int t_all, .int t_firstColumn, .int t_fitsAtFirst, .int t_paintingsOf0, .int t_paintingsOf1, .ref h_t_ruledOut]))] := by
    intro s2 h
    unfold fX3_paintsOf_15 at h
    refine j_aload_n C dX3_paintsOf_15 rfl 0 rfl ?_
    obtain ⟨r3, q4, h⟩ := jl_bind h
    refine j_cV1 C (mX3_allPaints (jlaunch X) D h_t h_t_ruledOut t_rows t_columns t_paints t_apart t_paintsOf0 t_paintsOf1 t_old t_shut t_all t_firstColumn t_fitsAtFirst t_paintingsOf0 t_paintingsOf1 r3 q4) bmX3_50 biX3_allPaints bsX3_allPaints bzX3 bcX3_allPaints rfl hX3_allPaints (rest := [.int s2]) rfl (jroom_of rfl) 0 (ci := 2) rfl rfl rfl [0] [] [0] (wr := []) (ws2 := [(h_t, .inr (2, [.int t_rows, .int t_columns, .int t_paints, .int t_apart, .int t_paintsOf0, .int t_paintsOf1, .int t_old, .int t_shut, .int t_all, .int t_firstColumn, .int t_fitsAtFirst, .int t_paintingsOf0, .int t_paintingsOf1, .ref h_t_ruledOut]))]) rfl rfl rfl rfl rfl (Nat.le_of_ble_eq_true rfl) dX3_paintsOf_16 ?_
    refine j_iand C dX3_paintsOf_19 ?_
    exact j_iretR C (r := r) (rtf := fun r => (some (.int r))) (wff := fun r => (oX3_paintsOf D h_t h_t_ruledOut t_rows t_columns t_paints t_apart t_paintsOf0 t_paintsOf1 t_old t_shut t_all t_firstColumn t_fitsAtFirst t_paintingsOf0 t_paintingsOf1 r)) E h rfl rfl dX3_paintsOf_20
  refine j_iload_n C dX3_paintsOf_0 rfl 1 rfl ?_
  refine j_if_ne C (tgt := 11) dX3_paintsOf_1 (by decide) h (fun c1 h => ?_) (fun c1 h => ?_)
  · refine j_aload_n C dX3_paintsOf_4 rfl 0 rfl ?_
    refine j_get C ibX3 (ci := 2) 0 rfl rfl 4 (by decide) bfX3_34 (v := .int t_paintsOf0) rfl dX3_paintsOf_5 ?_
    refine j_goto C dX3_paintsOf_8 (tgt := 15) (by decide) ?_
    refine j_sub (lv' := [(0, .ref h_t)]) [0] rfl ?_
    exact L15 t_paintsOf0 h
  · refine j_aload_n C dX3_paintsOf_11 rfl 0 rfl ?_
    refine j_get C ibX3 (ci := 2) 0 rfl rfl 5 (by decide) bfX3_37 (v := .int t_paintsOf1) rfl dX3_paintsOf_12 ?_
    refine j_sub (lv' := [(0, .ref h_t)]) [0] rfl ?_
    exact L15 t_paintsOf1 h
theorem dX3_clear_0 : decode cX3_clear 0 = .ok (.aload_n 0, 1) := by decide +kernel
theorem dX3_clear_1 : decode cX3_clear 1 = .ok (.iconst 1, 1) := by decide +kernel
theorem dX3_clear_2 : decode cX3_clear 2 = .ok (.putfield 21, 3) := by decide +kernel
theorem dX3_clear_5 : decode cX3_clear 5 = .ok (.aload_n 0, 1) := by decide +kernel
theorem dX3_clear_6 : decode cX3_clear 6 = .ok (.iconst 4, 1) := by decide +kernel
theorem dX3_clear_7 : decode cX3_clear 7 = .ok (.putfield 25, 3) := by decide +kernel
theorem dX3_clear_10 : decode cX3_clear 10 = .ok (.aload_n 0, 1) := by decide +kernel
theorem dX3_clear_11 : decode cX3_clear 11 = .ok (.iconst 2, 1) := by decide +kernel
theorem dX3_clear_12 : decode cX3_clear 12 = .ok (.putfield 28, 3) := by decide +kernel
theorem dX3_clear_15 : decode cX3_clear 15 = .ok (.aload_n 0, 1) := by decide +kernel
theorem dX3_clear_16 : decode cX3_clear 16 = .ok (.sipush 273, 3) := by decide +kernel
theorem dX3_clear_19 : decode cX3_clear 19 = .ok (.putfield 31, 3) := by decide +kernel
theorem dX3_clear_22 : decode cX3_clear 22 = .ok (.aload_n 0, 1) := by decide +kernel
theorem dX3_clear_23 : decode cX3_clear 23 = .ok (.bipush 7, 2) := by decide +kernel
theorem dX3_clear_25 : decode cX3_clear 25 = .ok (.putfield 34, 3) := by decide +kernel
theorem dX3_clear_28 : decode cX3_clear 28 = .ok (.aload_n 0, 1) := by decide +kernel
theorem dX3_clear_29 : decode cX3_clear 29 = .ok (.bipush 7, 2) := by decide +kernel
theorem dX3_clear_31 : decode cX3_clear 31 = .ok (.putfield 37, 3) := by decide +kernel
theorem dX3_clear_34 : decode cX3_clear 34 = .ok (.aload_n 0, 1) := by decide +kernel
theorem dX3_clear_35 : decode cX3_clear 35 = .ok (.iconst 0, 1) := by decide +kernel
theorem dX3_clear_36 : decode cX3_clear 36 = .ok (.putfield 40, 3) := by decide +kernel
theorem dX3_clear_39 : decode cX3_clear 39 = .ok (.aload_n 0, 1) := by decide +kernel
theorem dX3_clear_40 : decode cX3_clear 40 = .ok (.iconst 0, 1) := by decide +kernel
theorem dX3_clear_41 : decode cX3_clear 41 = .ok (.putfield 43, 3) := by decide +kernel
theorem dX3_clear_44 : decode cX3_clear 44 = .ok (.return_, 1) := by decide +kernel
def fX3_clear (t_rows : Int32) (t_columns : Int32) (t_paints : Int32) (t_apart : Int32) (t_paintsOf0 : Int32) (t_paintsOf1 : Int32) (t_old : Int32) (t_shut : Int32) : Option (Int32 × Int32 × Int32 × Int32 × Int32 × Int32 × Int32 × Int32) :=
(some ((1 : Int32), (4 : Int32), (2 : Int32), (273 : Int32), (7 : Int32), (7 : Int32), (0 : Int32), (0 : Int32)))
def oX3_clear (D : jv_D) (h_t : Nat) (h_t_ruledOut : Nat) (t_all : Int32) (t_firstColumn : Int32) (t_fitsAtFirst : Int32) (t_paintingsOf0 : Int32) (t_paintingsOf1 : Int32) (r : Int32 × Int32 × Int32 × Int32 × Int32 × Int32 × Int32 × Int32) : va_W := [(h_t, .inr (2, [.int r.1, .int r.2.1, .int r.2.2.1, .int r.2.2.2.1, .int r.2.2.2.2.1, .int r.2.2.2.2.2.1, .int r.2.2.2.2.2.2.1, .int r.2.2.2.2.2.2.2, .int t_all, .int t_firstColumn, .int t_fitsAtFirst, .int t_paintingsOf0, .int t_paintingsOf1, .ref h_t_ruledOut]))]
set_option maxHeartbeats 40000000 in
set_option maxRecDepth 100000 in
theorem mX3_clear (l : Launch) (D : jv_D) (h_t : Nat) (h_t_ruledOut : Nat) (t_rows : Int32) (t_columns : Int32) (t_paints : Int32) (t_apart : Int32) (t_paintsOf0 : Int32) (t_paintsOf1 : Int32) (t_old : Int32) (t_shut : Int32) (t_all : Int32) (t_firstColumn : Int32) (t_fitsAtFirst : Int32) (t_paintingsOf0 : Int32) (t_paintingsOf1 : Int32) (r : Int32 × Int32 × Int32 × Int32 × Int32 × Int32 × Int32 × Int32) (h : fX3_clear t_rows t_columns t_paints t_apart t_paintsOf0 t_paintsOf1 t_old t_shut = some r) : MM l yX3_clear (jW yX3_clear cX3_clear 1 none) ({ frames := 0, cells := 0, slots := 0, locals := 0 }) D [.ref h_t] [(h_t, .inr (2, [.int t_rows, .int t_columns, .int t_paints, .int t_apart, .int t_paintsOf0, .int t_paintsOf1, .int t_old, .int t_shut, .int t_all, .int t_firstColumn, .int t_fitsAtFirst, .int t_paintingsOf0, .int t_paintingsOf1, .ref h_t_ruledOut]))] none (oX3_clear D h_t h_t_ruledOut t_all t_firstColumn t_fitsAtFirst t_paintingsOf0 t_paintingsOf1 r) := by
  refine mn_of hpX3_clear (Nat.le_of_ble_eq_true rfl) ?_
  intro X hXl C E0 hN
  subst hXl
  replace C : JC D X 1 RX3 cX3_clear ({ frames := 0, cells := 0, slots := 0, locals := 0 }) := C
  have E : JE D X 0 0 none (fun _ : Unit => none) (fun _ : Unit => (oX3_clear D h_t h_t_ruledOut t_all t_firstColumn t_fitsAtFirst t_paintingsOf0 t_paintingsOf1 r)) := E0 0 0 rfl rfl
  clear E0 hN
  show JJ D X 1 0 0 0 [(0, .ref h_t)] [] [(h_t, .inr (2, [.int t_rows, .int t_columns, .int t_paints, .int t_apart, .int t_paintsOf0, .int t_paintsOf1, .int t_old, .int t_shut, .int t_all, .int t_firstColumn, .int t_fitsAtFirst, .int t_paintingsOf0, .int t_paintingsOf1, .ref h_t_ruledOut]))]
  unfold fX3_clear at h
  refine j_aload_n C dX3_clear_0 rfl 0 rfl ?_
  refine j_iconst C dX3_clear_1 (v := (1 : Int32)) (by decide) ?_
  refine j_put C ibX3 tyX3 tyX3_ok nmX3 (ci := 2) 0 rfl rfl 0 (by decide) bfX3_21 rfl rfl rfl (Nat.le_of_ble_eq_true rfl) dX3_clear_2 (ws' := [(h_t, .inr (2, [.int ((1 : Int32)), .int t_columns, .int t_paints, .int t_apart, .int t_paintsOf0, .int t_paintsOf1, .int t_old, .int t_shut, .int t_all, .int t_firstColumn, .int t_fitsAtFirst, .int t_paintingsOf0, .int t_paintingsOf1, .ref h_t_ruledOut]))]) rfl ?_
  refine j_aload_n C dX3_clear_5 rfl 0 rfl ?_
  refine j_iconst C dX3_clear_6 (v := (4 : Int32)) (by decide) ?_
  refine j_put C ibX3 tyX3 tyX3_ok nmX3 (ci := 2) 0 rfl rfl 1 (by decide) bfX3_25 rfl rfl rfl (Nat.le_of_ble_eq_true rfl) dX3_clear_7 (ws' := [(h_t, .inr (2, [.int ((1 : Int32)), .int ((4 : Int32)), .int t_paints, .int t_apart, .int t_paintsOf0, .int t_paintsOf1, .int t_old, .int t_shut, .int t_all, .int t_firstColumn, .int t_fitsAtFirst, .int t_paintingsOf0, .int t_paintingsOf1, .ref h_t_ruledOut]))]) rfl ?_
  refine j_aload_n C dX3_clear_10 rfl 0 rfl ?_
  refine j_iconst C dX3_clear_11 (v := (2 : Int32)) (by decide) ?_
  refine j_put C ibX3 tyX3 tyX3_ok nmX3 (ci := 2) 0 rfl rfl 2 (by decide) bfX3_28 rfl rfl rfl (Nat.le_of_ble_eq_true rfl) dX3_clear_12 (ws' := [(h_t, .inr (2, [.int ((1 : Int32)), .int ((4 : Int32)), .int ((2 : Int32)), .int t_apart, .int t_paintsOf0, .int t_paintsOf1, .int t_old, .int t_shut, .int t_all, .int t_firstColumn, .int t_fitsAtFirst, .int t_paintingsOf0, .int t_paintingsOf1, .ref h_t_ruledOut]))]) rfl ?_
  refine j_aload_n C dX3_clear_15 rfl 0 rfl ?_
  refine j_sipush C dX3_clear_16 (v := (273 : Int32)) (by decide) ?_
  refine j_put C ibX3 tyX3 tyX3_ok nmX3 (ci := 2) 0 rfl rfl 3 (by decide) bfX3_31 rfl rfl rfl (Nat.le_of_ble_eq_true rfl) dX3_clear_19 (ws' := [(h_t, .inr (2, [.int ((1 : Int32)), .int ((4 : Int32)), .int ((2 : Int32)), .int ((273 : Int32)), .int t_paintsOf0, .int t_paintsOf1, .int t_old, .int t_shut, .int t_all, .int t_firstColumn, .int t_fitsAtFirst, .int t_paintingsOf0, .int t_paintingsOf1, .ref h_t_ruledOut]))]) rfl ?_
  refine j_aload_n C dX3_clear_22 rfl 0 rfl ?_
  refine j_bipush C dX3_clear_23 (v := (7 : Int32)) (by decide) ?_
  refine j_put C ibX3 tyX3 tyX3_ok nmX3 (ci := 2) 0 rfl rfl 4 (by decide) bfX3_34 rfl rfl rfl (Nat.le_of_ble_eq_true rfl) dX3_clear_25 (ws' := [(h_t, .inr (2, [.int ((1 : Int32)), .int ((4 : Int32)), .int ((2 : Int32)), .int ((273 : Int32)), .int ((7 : Int32)), .int t_paintsOf1, .int t_old, .int t_shut, .int t_all, .int t_firstColumn, .int t_fitsAtFirst, .int t_paintingsOf0, .int t_paintingsOf1, .ref h_t_ruledOut]))]) rfl ?_
  refine j_aload_n C dX3_clear_28 rfl 0 rfl ?_
  refine j_bipush C dX3_clear_29 (v := (7 : Int32)) (by decide) ?_
  refine j_put C ibX3 tyX3 tyX3_ok nmX3 (ci := 2) 0 rfl rfl 5 (by decide) bfX3_37 rfl rfl rfl (Nat.le_of_ble_eq_true rfl) dX3_clear_31 (ws' := [(h_t, .inr (2, [.int ((1 : Int32)), .int ((4 : Int32)), .int ((2 : Int32)), .int ((273 : Int32)), .int ((7 : Int32)), .int ((7 : Int32)), .int t_old, .int t_shut, .int t_all, .int t_firstColumn, .int t_fitsAtFirst, .int t_paintingsOf0, .int t_paintingsOf1, .ref h_t_ruledOut]))]) rfl ?_
  refine j_aload_n C dX3_clear_34 rfl 0 rfl ?_
  refine j_iconst C dX3_clear_35 (v := (0 : Int32)) (by decide) ?_
  refine j_put C ibX3 tyX3 tyX3_ok nmX3 (ci := 2) 0 rfl rfl 6 (by decide) bfX3_40 rfl rfl rfl (Nat.le_of_ble_eq_true rfl) dX3_clear_36 (ws' := [(h_t, .inr (2, [.int ((1 : Int32)), .int ((4 : Int32)), .int ((2 : Int32)), .int ((273 : Int32)), .int ((7 : Int32)), .int ((7 : Int32)), .int ((0 : Int32)), .int t_shut, .int t_all, .int t_firstColumn, .int t_fitsAtFirst, .int t_paintingsOf0, .int t_paintingsOf1, .ref h_t_ruledOut]))]) rfl ?_
  refine j_aload_n C dX3_clear_39 rfl 0 rfl ?_
  refine j_iconst C dX3_clear_40 (v := (0 : Int32)) (by decide) ?_
  refine j_put C ibX3 tyX3 tyX3_ok nmX3 (ci := 2) 0 rfl rfl 7 (by decide) bfX3_43 rfl rfl rfl (Nat.le_of_ble_eq_true rfl) dX3_clear_41 (ws' := [(h_t, .inr (2, [.int ((1 : Int32)), .int ((4 : Int32)), .int ((2 : Int32)), .int ((273 : Int32)), .int ((7 : Int32)), .int ((7 : Int32)), .int ((0 : Int32)), .int ((0 : Int32)), .int t_all, .int t_firstColumn, .int t_fitsAtFirst, .int t_paintingsOf0, .int t_paintingsOf1, .ref h_t_ruledOut]))]) rfl ?_
  exact j_vretR C (r := r) (rtf := fun r => none) (wff := fun r => (oX3_clear D h_t h_t_ruledOut t_all t_firstColumn t_fitsAtFirst t_paintingsOf0 t_paintingsOf1 r)) E h rfl rfl dX3_clear_44
theorem dX3_stones_0 : decode cX3_stones 0 = .ok (.aload_n 0, 1) := by decide +kernel
theorem dX3_stones_1 : decode cX3_stones 1 = .ok (.getfield 21, 3) := by decide +kernel
theorem dX3_stones_4 : decode cX3_stones 4 = .ok (.aload_n 0, 1) := by decide +kernel
theorem dX3_stones_5 : decode cX3_stones 5 = .ok (.getfield 25, 3) := by decide +kernel
theorem dX3_stones_8 : decode cX3_stones 8 = .ok (.imul, 1) := by decide +kernel
theorem dX3_stones_9 : decode cX3_stones 9 = .ok (.ireturn, 1) := by decide +kernel
def fX3_stones (t_rows : Int32) (t_columns : Int32) : Option (Int32) :=
(some (t_rows * t_columns))
def oX3_stones (D : jv_D) (h_t : Nat) (h_t_ruledOut : Nat) (t_rows : Int32) (t_columns : Int32) (t_paints : Int32) (t_apart : Int32) (t_paintsOf0 : Int32) (t_paintsOf1 : Int32) (t_old : Int32) (t_shut : Int32) (t_all : Int32) (t_firstColumn : Int32) (t_fitsAtFirst : Int32) (t_paintingsOf0 : Int32) (t_paintingsOf1 : Int32) (r : Int32) : va_W := [(h_t, .inr (2, [.int t_rows, .int t_columns, .int t_paints, .int t_apart, .int t_paintsOf0, .int t_paintsOf1, .int t_old, .int t_shut, .int t_all, .int t_firstColumn, .int t_fitsAtFirst, .int t_paintingsOf0, .int t_paintingsOf1, .ref h_t_ruledOut]))]
set_option maxHeartbeats 40000000 in
set_option maxRecDepth 100000 in
theorem mX3_stones (l : Launch) (D : jv_D) (h_t : Nat) (h_t_ruledOut : Nat) (t_rows : Int32) (t_columns : Int32) (t_paints : Int32) (t_apart : Int32) (t_paintsOf0 : Int32) (t_paintsOf1 : Int32) (t_old : Int32) (t_shut : Int32) (t_all : Int32) (t_firstColumn : Int32) (t_fitsAtFirst : Int32) (t_paintingsOf0 : Int32) (t_paintingsOf1 : Int32) (r : Int32) (h : fX3_stones t_rows t_columns = some r) : MM l yX3_stones (jW yX3_stones cX3_stones 1 (some .int)) ({ frames := 0, cells := 0, slots := 0, locals := 0 }) D [.ref h_t] [(h_t, .inr (2, [.int t_rows, .int t_columns, .int t_paints, .int t_apart, .int t_paintsOf0, .int t_paintsOf1, .int t_old, .int t_shut, .int t_all, .int t_firstColumn, .int t_fitsAtFirst, .int t_paintingsOf0, .int t_paintingsOf1, .ref h_t_ruledOut]))] (some (.int r)) (oX3_stones D h_t h_t_ruledOut t_rows t_columns t_paints t_apart t_paintsOf0 t_paintsOf1 t_old t_shut t_all t_firstColumn t_fitsAtFirst t_paintingsOf0 t_paintingsOf1 r) := by
  refine mn_of hpX3_stones (Nat.le_of_ble_eq_true rfl) ?_
  intro X hXl C E0 hN
  subst hXl
  replace C : JC D X 1 RX3 cX3_stones ({ frames := 0, cells := 0, slots := 0, locals := 0 }) := C
  have E : JE D X 0 0 (some .int) (fun _ : Unit => (some (.int r))) (fun _ : Unit => (oX3_stones D h_t h_t_ruledOut t_rows t_columns t_paints t_apart t_paintsOf0 t_paintsOf1 t_old t_shut t_all t_firstColumn t_fitsAtFirst t_paintingsOf0 t_paintingsOf1 r)) := E0 0 0 rfl rfl
  clear E0 hN
  show JJ D X 1 0 0 0 [(0, .ref h_t)] [] [(h_t, .inr (2, [.int t_rows, .int t_columns, .int t_paints, .int t_apart, .int t_paintsOf0, .int t_paintsOf1, .int t_old, .int t_shut, .int t_all, .int t_firstColumn, .int t_fitsAtFirst, .int t_paintingsOf0, .int t_paintingsOf1, .ref h_t_ruledOut]))]
  unfold fX3_stones at h
  refine j_aload_n C dX3_stones_0 rfl 0 rfl ?_
  refine j_get C ibX3 (ci := 2) 0 rfl rfl 0 (by decide) bfX3_21 (v := .int t_rows) rfl dX3_stones_1 ?_
  refine j_aload_n C dX3_stones_4 rfl 0 rfl ?_
  refine j_get C ibX3 (ci := 2) 0 rfl rfl 1 (by decide) bfX3_25 (v := .int t_columns) rfl dX3_stones_5 ?_
  refine j_imul C dX3_stones_8 ?_
  exact j_iretR C (r := r) (rtf := fun r => (some (.int r))) (wff := fun r => (oX3_stones D h_t h_t_ruledOut t_rows t_columns t_paints t_apart t_paintsOf0 t_paintsOf1 t_old t_shut t_all t_firstColumn t_fitsAtFirst t_paintingsOf0 t_paintingsOf1 r)) E h rfl rfl dX3_stones_9
theorem dX3_inPaints_0 : decode cX3_inPaints 0 = .ok (.iconst 0, 1) := by decide +kernel
theorem dX3_inPaints_1 : decode cX3_inPaints 1 = .ok (.istore_n 2, 1) := by decide +kernel
theorem dX3_inPaints_2 : decode cX3_inPaints 2 = .ok (.iconst 1, 1) := by decide +kernel
theorem dX3_inPaints_3 : decode cX3_inPaints 3 = .ok (.istore_n 3, 1) := by decide +kernel
theorem dX3_inPaints_4 : decode cX3_inPaints 4 = .ok (.iload_n 3, 1) := by decide +kernel
theorem dX3_inPaints_5 : decode cX3_inPaints 5 = .ok (.iconst 3, 1) := by decide +kernel
theorem dX3_inPaints_6 : decode cX3_inPaints 6 = .ok (.if_icmp .gt 34, 3) := by decide +kernel
theorem dX3_inPaints_9 : decode cX3_inPaints 9 = .ok (.iload_n 2, 1) := by decide +kernel
theorem dX3_inPaints_10 : decode cX3_inPaints 10 = .ok (.iload_n 1, 1) := by decide +kernel
theorem dX3_inPaints_11 : decode cX3_inPaints 11 = .ok (.iload_n 3, 1) := by decide +kernel
theorem dX3_inPaints_12 : decode cX3_inPaints 12 = .ok (.iconst 1, 1) := by decide +kernel
theorem dX3_inPaints_13 : decode cX3_inPaints 13 = .ok (.isub, 1) := by decide +kernel
theorem dX3_inPaints_14 : decode cX3_inPaints 14 = .ok (.ishr, 1) := by decide +kernel
theorem dX3_inPaints_15 : decode cX3_inPaints 15 = .ok (.iconst 1, 1) := by decide +kernel
theorem dX3_inPaints_16 : decode cX3_inPaints 16 = .ok (.iand, 1) := by decide +kernel
theorem dX3_inPaints_17 : decode cX3_inPaints 17 = .ok (.ifCond .eq 14, 3) := by decide +kernel
theorem dX3_inPaints_20 : decode cX3_inPaints 20 = .ok (.iload_n 0, 1) := by decide +kernel
theorem dX3_inPaints_21 : decode cX3_inPaints 21 = .ok (.bipush 9, 2) := by decide +kernel
theorem dX3_inPaints_23 : decode cX3_inPaints 23 = .ok (.iload_n 3, 1) := by decide +kernel
theorem dX3_inPaints_24 : decode cX3_inPaints 24 = .ok (.iconst 1, 1) := by decide +kernel
theorem dX3_inPaints_25 : decode cX3_inPaints 25 = .ok (.isub, 1) := by decide +kernel
theorem dX3_inPaints_26 : decode cX3_inPaints 26 = .ok (.imul, 1) := by decide +kernel
theorem dX3_inPaints_27 : decode cX3_inPaints 27 = .ok (.ishl, 1) := by decide +kernel
theorem dX3_inPaints_28 : decode cX3_inPaints 28 = .ok (.goto 4, 3) := by decide +kernel
theorem dX3_inPaints_31 : decode cX3_inPaints 31 = .ok (.iconst 0, 1) := by decide +kernel
theorem dX3_inPaints_32 : decode cX3_inPaints 32 = .ok (.ior, 1) := by decide +kernel
theorem dX3_inPaints_33 : decode cX3_inPaints 33 = .ok (.istore_n 2, 1) := by decide +kernel
theorem dX3_inPaints_34 : decode cX3_inPaints 34 = .ok (.iinc 3 1, 3) := by decide +kernel
theorem dX3_inPaints_37 : decode cX3_inPaints 37 = .ok (.goto (-33), 3) := by decide +kernel
theorem dX3_inPaints_40 : decode cX3_inPaints 40 = .ok (.iload_n 2, 1) := by decide +kernel
theorem dX3_inPaints_41 : decode cX3_inPaints 41 = .ok (.ireturn, 1) := by decide +kernel
def fX3_inPaints_32 (F : Nat) (p0 : Int32) (p1 : Int32) (k4 : Int32 → Int32 → Option (Int32)) (x5 : Int32) (s6 : Int32) (s7 : Int32) : Option (Int32) :=
(jl_let (s7 ||| s6) fun v8 =>
(jl_let (x5 + Int32.ofInt (1)) fun v9 =>
(k4 v8 v9)))
def bX3_inPaints_4 (F : Nat) (p0 : Int32) (p1 : Int32)  (k4 : Int32 → Int32 → Option (Int32)) (x1 : Int32) (x2 : Int32) : Option (Int32) :=
(if ((3 : Int32)) < x2 then
(some (x1))
else
(if ((p1 >>> ((x2 - ((1 : Int32))) &&& 31)) &&& ((1 : Int32))) = 0 then
(fX3_inPaints_32 F p0 p1 k4 x2 ((0 : Int32)) x1)
else
(fX3_inPaints_32 F p0 p1 k4 x2 (p0 <<< ((((9 : Int32)) * (x2 - ((1 : Int32)))) &&& 31)) x1)))
def lX3_inPaints_4 (F : Nat) (p0 : Int32) (p1 : Int32)  (F2 : Nat) (x1 : Int32) (x2 : Int32) : Option (Int32) := jl_loop2 (bX3_inPaints_4 F p0 p1 ) F2 x1 x2
def fX3_inPaints (F : Nat) (p0 : Int32) (p1 : Int32) : Option (Int32) :=
(lX3_inPaints_4 F p0 p1 F ((0 : Int32)) ((1 : Int32)))
def oX3_inPaints (D : jv_D)  (r : Int32) : va_W := []
set_option maxHeartbeats 40000000 in
set_option maxRecDepth 100000 in
theorem mX3_inPaints (l : Launch) (D : jv_D) (F : Nat) (p0 : Int32) (p1 : Int32) (r : Int32) (h : fX3_inPaints F p0 p1 = some r) : MM l yX3_inPaints (jW yX3_inPaints cX3_inPaints 4 (some .int)) ({ frames := 0, cells := 0, slots := 0, locals := 0 }) D [.int p0, .int p1] [] (some (.int r)) (oX3_inPaints D  r) := by
  refine mn_of hpX3_inPaints (Nat.le_of_ble_eq_true rfl) ?_
  intro X hXl C E0 hN
  subst hXl
  replace C : JC D X 4 RX3 cX3_inPaints ({ frames := 0, cells := 0, slots := 0, locals := 0 }) := C
  have E : JE D X 0 0 (some .int) (fun _ : Unit => (some (.int r))) (fun _ : Unit => (oX3_inPaints D  r)) := E0 0 0 rfl rfl
  clear E0 hN
  show JJ D X 4 0 0 0 [(0, .int p0), (1, .int p1)] [] []
  unfold fX3_inPaints at h
  have L4 : ∀ (x1 : Int32) (x2 : Int32), lX3_inPaints_4 F p0 p1  F x1 x2 = some r → JJ D X 4 0 0 4 [(0, .int p0), (1, .int p1), (2, .int x1), (3, .int x2)] [] [] := by
    intro x1 x2 h
    refine jl_ind2 (fun x1 x2 => JJ D X 4 0 0 4 [(0, .int p0), (1, .int p1), (2, .int x1), (3, .int x2)] [] []) ?_ F x1 x2 h
    clear h x1 x2
    intro k4 i4 x1 x2 h
    replace i4 : ∀ (x1 : Int32) (x2 : Int32), k4 x1 x2 = some r → JJ D X 4 0 0 4 [(0, .int p0), (1, .int p1), (2, .int x1), (3, .int x2)] [] [] := i4
    show JJ D X 4 0 0 4 [(0, .int p0), (1, .int p1), (2, .int x1), (3, .int x2)] [] []
    unfold bX3_inPaints_4 at h
    have L32 : ∀ (x5 : Int32) (s6 : Int32) (s7 : Int32), fX3_inPaints_32 F p0 p1 k4 x5 s6 s7 = some r → JJ D X 4 0 0 32 [(0, .int p0), (1, .int p1), (3, .int x5)] [.int s6, .int s7] [] := by
      intro x5 s6 s7 h
      unfold fX3_inPaints_32 at h
      refine j_ior C dX3_inPaints_32 ?_
      refine j_istore_n C dX3_inPaints_33 rfl (lv' := fun v8 => [(2, .int v8), (0, .int p0), (1, .int p1), (3, .int x5)]) (by decide) (fun _ => rfl) h (fun v8 h => ?_)
      refine j_iinc C dX3_inPaints_34 3 rfl (lv' := fun v9 => [(3, .int v9), (2, .int v8), (0, .int p0), (1, .int p1)]) (by decide) (fun _ => rfl) h (fun v9 h => ?_)
      refine j_goto C dX3_inPaints_37 (tgt := 4) (by decide) ?_
      refine j_sub (lv' := [(0, .int p0), (1, .int p1), (2, .int v8), (3, .int v9)]) [2, 3, 1, 0] rfl ?_
      exact i4 v8 v9 h
    refine j_iload_n C dX3_inPaints_4 rfl 3 rfl ?_
    refine j_iconst C dX3_inPaints_5 (v := (3 : Int32)) (by decide) ?_
    refine j_icmp_gt C (tgt := 40) dX3_inPaints_6 (by decide) h (fun c3 h => ?_) (fun c3 h => ?_)
    · refine j_iload_n C dX3_inPaints_40 rfl 2 rfl ?_
      exact j_iretR C (r := r) (rtf := fun r => (some (.int r))) (wff := fun r => (oX3_inPaints D  r)) E h rfl rfl dX3_inPaints_41
    · refine j_iload_n C dX3_inPaints_9 rfl 2 rfl ?_
      refine j_iload_n C dX3_inPaints_10 rfl 1 rfl ?_
      refine j_iload_n C dX3_inPaints_11 rfl 3 rfl ?_
      refine j_iconst C dX3_inPaints_12 (v := (1 : Int32)) (by decide) ?_
      refine j_isub C dX3_inPaints_13 ?_
      refine j_ishr C dX3_inPaints_14 ?_
      refine j_iconst C dX3_inPaints_15 (v := (1 : Int32)) (by decide) ?_
      refine j_iand C dX3_inPaints_16 ?_
      refine j_if_eq C (tgt := 31) dX3_inPaints_17 (by decide) h (fun c4 h => ?_) (fun c4 h => ?_)
      · refine j_iconst C dX3_inPaints_31 (v := (0 : Int32)) (by decide) ?_
        refine j_sub (lv' := [(0, .int p0), (1, .int p1), (3, .int x2)]) [0, 1, 3] rfl ?_
        exact L32 x2 ((0 : Int32)) x1 h
      · refine j_iload_n C dX3_inPaints_20 rfl 0 rfl ?_
        refine j_bipush C dX3_inPaints_21 (v := (9 : Int32)) (by decide) ?_
        refine j_iload_n C dX3_inPaints_23 rfl 3 rfl ?_
        refine j_iconst C dX3_inPaints_24 (v := (1 : Int32)) (by decide) ?_
        refine j_isub C dX3_inPaints_25 ?_
        refine j_imul C dX3_inPaints_26 ?_
        refine j_ishl C dX3_inPaints_27 ?_
        refine j_goto C dX3_inPaints_28 (tgt := 32) (by decide) ?_
        refine j_sub (lv' := [(0, .int p0), (1, .int p1), (3, .int x2)]) [0, 1, 3] rfl ?_
        exact L32 x2 (p0 <<< ((((9 : Int32)) * (x2 - ((1 : Int32)))) &&& 31)) x1 h
  refine j_iconst C dX3_inPaints_0 (v := (0 : Int32)) (by decide) ?_
  refine j_istore_nC C dX3_inPaints_1 rfl (lv' := [(2, .int ((0 : Int32))), (0, .int p0), (1, .int p1)]) (by decide) rfl ?_
  refine j_iconst C dX3_inPaints_2 (v := (1 : Int32)) (by decide) ?_
  refine j_istore_nC C dX3_inPaints_3 rfl (lv' := [(3, .int ((1 : Int32))), (2, .int ((0 : Int32))), (0, .int p0), (1, .int p1)]) (by decide) rfl ?_
  refine j_sub (lv' := [(0, .int p0), (1, .int p1), (2, .int ((0 : Int32))), (3, .int ((1 : Int32)))]) [2, 3, 1, 0] rfl ?_
  exact L4 ((0 : Int32)) ((1 : Int32)) h
theorem dX3_pair_0 : decode cX3_pair 0 = .ok (.iconst 1, 1) := by decide +kernel
theorem dX3_pair_1 : decode cX3_pair 1 = .ok (.iconst 3, 1) := by decide +kernel
theorem dX3_pair_2 : decode cX3_pair 2 = .ok (.iload_n 0, 1) := by decide +kernel
theorem dX3_pair_3 : decode cX3_pair 3 = .ok (.iconst 1, 1) := by decide +kernel
theorem dX3_pair_4 : decode cX3_pair 4 = .ok (.isub, 1) := by decide +kernel
theorem dX3_pair_5 : decode cX3_pair 5 = .ok (.imul, 1) := by decide +kernel
theorem dX3_pair_6 : decode cX3_pair 6 = .ok (.iload_n 1, 1) := by decide +kernel
theorem dX3_pair_7 : decode cX3_pair 7 = .ok (.iadd, 1) := by decide +kernel
theorem dX3_pair_8 : decode cX3_pair 8 = .ok (.iconst 1, 1) := by decide +kernel
theorem dX3_pair_9 : decode cX3_pair 9 = .ok (.isub, 1) := by decide +kernel
theorem dX3_pair_10 : decode cX3_pair 10 = .ok (.ishl, 1) := by decide +kernel
theorem dX3_pair_11 : decode cX3_pair 11 = .ok (.ireturn, 1) := by decide +kernel
def fX3_pair (p0 : Int32) (p1 : Int32) : Option (Int32) :=
(some (((1 : Int32)) <<< ((((((3 : Int32)) * (p0 - ((1 : Int32)))) + p1) - ((1 : Int32))) &&& 31)))
def oX3_pair (D : jv_D)  (r : Int32) : va_W := []
set_option maxHeartbeats 40000000 in
set_option maxRecDepth 100000 in
theorem mX3_pair (l : Launch) (D : jv_D) (p0 : Int32) (p1 : Int32) (r : Int32) (h : fX3_pair p0 p1 = some r) : MM l yX3_pair (jW yX3_pair cX3_pair 2 (some .int)) ({ frames := 0, cells := 0, slots := 0, locals := 0 }) D [.int p0, .int p1] [] (some (.int r)) (oX3_pair D  r) := by
  refine mn_of hpX3_pair (Nat.le_of_ble_eq_true rfl) ?_
  intro X hXl C E0 hN
  subst hXl
  replace C : JC D X 2 RX3 cX3_pair ({ frames := 0, cells := 0, slots := 0, locals := 0 }) := C
  have E : JE D X 0 0 (some .int) (fun _ : Unit => (some (.int r))) (fun _ : Unit => (oX3_pair D  r)) := E0 0 0 rfl rfl
  clear E0 hN
  show JJ D X 2 0 0 0 [(0, .int p0), (1, .int p1)] [] []
  unfold fX3_pair at h
  refine j_iconst C dX3_pair_0 (v := (1 : Int32)) (by decide) ?_
  refine j_iconst C dX3_pair_1 (v := (3 : Int32)) (by decide) ?_
  refine j_iload_n C dX3_pair_2 rfl 0 rfl ?_
  refine j_iconst C dX3_pair_3 (v := (1 : Int32)) (by decide) ?_
  refine j_isub C dX3_pair_4 ?_
  refine j_imul C dX3_pair_5 ?_
  refine j_iload_n C dX3_pair_6 rfl 1 rfl ?_
  refine j_iadd C dX3_pair_7 ?_
  refine j_iconst C dX3_pair_8 (v := (1 : Int32)) (by decide) ?_
  refine j_isub C dX3_pair_9 ?_
  refine j_ishl C dX3_pair_10 ?_
  exact j_iretR C (r := r) (rtf := fun r => (some (.int r))) (wff := fun r => (oX3_pair D  r)) E h rfl rfl dX3_pair_11
theorem dX3_mayTouch_0 : decode cX3_mayTouch 0 = .ok (.aload_n 0, 1) := by decide +kernel
theorem dX3_mayTouch_1 : decode cX3_mayTouch 1 = .ok (.getfield 31, 3) := by decide +kernel
theorem dX3_mayTouch_4 : decode cX3_mayTouch 4 = .ok (.iload_n 1, 1) := by decide +kernel
theorem dX3_mayTouch_5 : decode cX3_mayTouch 5 = .ok (.iload_n 2, 1) := by decide +kernel
theorem dX3_mayTouch_6 : decode cX3_mayTouch 6 = .ok (.invokestatic 59, 3) := by decide +kernel
theorem dX3_mayTouch_9 : decode cX3_mayTouch 9 = .ok (.iand, 1) := by decide +kernel
theorem dX3_mayTouch_10 : decode cX3_mayTouch 10 = .ok (.ifCond .ne 7, 3) := by decide +kernel
theorem dX3_mayTouch_13 : decode cX3_mayTouch 13 = .ok (.iconst 1, 1) := by decide +kernel
theorem dX3_mayTouch_14 : decode cX3_mayTouch 14 = .ok (.goto 4, 3) := by decide +kernel
theorem dX3_mayTouch_17 : decode cX3_mayTouch 17 = .ok (.iconst 0, 1) := by decide +kernel
theorem dX3_mayTouch_18 : decode cX3_mayTouch 18 = .ok (.ireturn, 1) := by decide +kernel
def fX3_mayTouch (t_apart : Int32) (p1 : Int32) (p2 : Int32) : Option (Int32) :=
((fX3_pair p1 p2).bind fun r1 =>
(if (t_apart &&& r1) = 0 then
(some ((1 : Int32)))
else
(some ((0 : Int32)))))
def oX3_mayTouch (D : jv_D) (h_t : Nat) (h_t_ruledOut : Nat) (t_rows : Int32) (t_columns : Int32) (t_paints : Int32) (t_apart : Int32) (t_paintsOf0 : Int32) (t_paintsOf1 : Int32) (t_old : Int32) (t_shut : Int32) (t_all : Int32) (t_firstColumn : Int32) (t_fitsAtFirst : Int32) (t_paintingsOf0 : Int32) (t_paintingsOf1 : Int32) (r : Int32) : va_W := [(h_t, .inr (2, [.int t_rows, .int t_columns, .int t_paints, .int t_apart, .int t_paintsOf0, .int t_paintsOf1, .int t_old, .int t_shut, .int t_all, .int t_firstColumn, .int t_fitsAtFirst, .int t_paintingsOf0, .int t_paintingsOf1, .ref h_t_ruledOut]))]
set_option maxHeartbeats 40000000 in
set_option maxRecDepth 100000 in
theorem mX3_mayTouch (l : Launch) (D : jv_D) (h_t : Nat) (h_t_ruledOut : Nat) (t_rows : Int32) (t_columns : Int32) (t_paints : Int32) (t_apart : Int32) (t_paintsOf0 : Int32) (t_paintsOf1 : Int32) (t_old : Int32) (t_shut : Int32) (t_all : Int32) (t_firstColumn : Int32) (t_fitsAtFirst : Int32) (t_paintingsOf0 : Int32) (t_paintingsOf1 : Int32) (p1 : Int32) (p2 : Int32) (r : Int32) (h : fX3_mayTouch t_apart p1 p2 = some r) : MM l yX3_mayTouch (jW yX3_mayTouch cX3_mayTouch 3 (some .boolean)) ({ frames := 1, cells := 0, slots := 0, locals := 21 }) D [.ref h_t, .int p1, .int p2] [(h_t, .inr (2, [.int t_rows, .int t_columns, .int t_paints, .int t_apart, .int t_paintsOf0, .int t_paintsOf1, .int t_old, .int t_shut, .int t_all, .int t_firstColumn, .int t_fitsAtFirst, .int t_paintingsOf0, .int t_paintingsOf1, .ref h_t_ruledOut]))] (some (.int r)) (oX3_mayTouch D h_t h_t_ruledOut t_rows t_columns t_paints t_apart t_paintsOf0 t_paintsOf1 t_old t_shut t_all t_firstColumn t_fitsAtFirst t_paintingsOf0 t_paintingsOf1 r) := by
  refine mn_of hpX3_mayTouch (Nat.le_of_ble_eq_true rfl) ?_
  intro X hXl C E0 hN
  subst hXl
  replace C : JC D X 3 RX3 cX3_mayTouch ({ frames := 1, cells := 0, slots := 0, locals := 21 }) := C
  have E : JE D X 0 0 (some .boolean) (fun _ : Unit => (some (.int r))) (fun _ : Unit => (oX3_mayTouch D h_t h_t_ruledOut t_rows t_columns t_paints t_apart t_paintsOf0 t_paintsOf1 t_old t_shut t_all t_firstColumn t_fitsAtFirst t_paintingsOf0 t_paintingsOf1 r)) := E0 0 0 rfl rfl
  clear E0 hN
  show JJ D X 3 0 0 0 [(0, .ref h_t), (1, .int p1), (2, .int p2)] [] [(h_t, .inr (2, [.int t_rows, .int t_columns, .int t_paints, .int t_apart, .int t_paintsOf0, .int t_paintsOf1, .int t_old, .int t_shut, .int t_all, .int t_firstColumn, .int t_fitsAtFirst, .int t_paintingsOf0, .int t_paintingsOf1, .ref h_t_ruledOut]))]
  unfold fX3_mayTouch at h
  refine j_aload_n C dX3_mayTouch_0 rfl 0 rfl ?_
  refine j_get C ibX3 (ci := 2) 0 rfl rfl 3 (by decide) bfX3_31 (v := .int t_apart) rfl dX3_mayTouch_1 ?_
  refine j_iload_n C dX3_mayTouch_4 rfl 1 rfl ?_
  refine j_iload_n C dX3_mayTouch_5 rfl 2 rfl ?_
  obtain ⟨r1, q2, h⟩ := jl_bind h
  refine j_cS1 C (mX3_pair (jlaunch X) D p1 p2 r1 q2) bmX3_59 btX3_pair bzX3 bcX3_pair hX3_pair (rest := [.int t_apart]) rfl (jroom_of rfl) [] [0] [0] (wr := [(h_t, .inr (2, [.int t_rows, .int t_columns, .int t_paints, .int t_apart, .int t_paintsOf0, .int t_paintsOf1, .int t_old, .int t_shut, .int t_all, .int t_firstColumn, .int t_fitsAtFirst, .int t_paintingsOf0, .int t_paintingsOf1, .ref h_t_ruledOut]))]) (ws2 := [(h_t, .inr (2, [.int t_rows, .int t_columns, .int t_paints, .int t_apart, .int t_paintsOf0, .int t_paintsOf1, .int t_old, .int t_shut, .int t_all, .int t_firstColumn, .int t_fitsAtFirst, .int t_paintingsOf0, .int t_paintingsOf1, .ref h_t_ruledOut]))]) rfl rfl rfl rfl rfl (Nat.le_of_ble_eq_true rfl) dX3_mayTouch_6 ?_
  refine j_iand C dX3_mayTouch_9 ?_
  refine j_if_ne C (tgt := 17) dX3_mayTouch_10 (by decide) h (fun c3 h => ?_) (fun c3 h => ?_)
  · refine j_iconst C dX3_mayTouch_13 (v := (1 : Int32)) (by decide) ?_
    refine j_goto C dX3_mayTouch_14 (tgt := 18) (by decide) ?_
    exact j_zretR C (r := r) (rtf := fun r => (some (.int r))) (wff := fun r => (oX3_mayTouch D h_t h_t_ruledOut t_rows t_columns t_paints t_apart t_paintsOf0 t_paintsOf1 t_old t_shut t_all t_firstColumn t_fitsAtFirst t_paintingsOf0 t_paintingsOf1 r)) E rfl h rfl rfl dX3_mayTouch_18
  · refine j_iconst C dX3_mayTouch_17 (v := (0 : Int32)) (by decide) ?_
    exact j_zretR C (r := r) (rtf := fun r => (some (.int r))) (wff := fun r => (oX3_mayTouch D h_t h_t_ruledOut t_rows t_columns t_paints t_apart t_paintsOf0 t_paintsOf1 t_old t_shut t_all t_firstColumn t_fitsAtFirst t_paintingsOf0 t_paintingsOf1 r)) E rfl h rfl rfl dX3_mayTouch_18
theorem dX3_near_0 : decode cX3_near 0 = .ok (.aload_n 0, 1) := by decide +kernel
theorem dX3_near_1 : decode cX3_near 1 = .ok (.getfield 72, 3) := by decide +kernel
theorem dX3_near_4 : decode cX3_near 4 = .ok (.aload_n 0, 1) := by decide +kernel
theorem dX3_near_5 : decode cX3_near 5 = .ok (.getfield 25, 3) := by decide +kernel
theorem dX3_near_8 : decode cX3_near 8 = .ok (.iconst 1, 1) := by decide +kernel
theorem dX3_near_9 : decode cX3_near 9 = .ok (.isub, 1) := by decide +kernel
theorem dX3_near_10 : decode cX3_near 10 = .ok (.ishl, 1) := by decide +kernel
theorem dX3_near_11 : decode cX3_near 11 = .ok (.istore_n 2, 1) := by decide +kernel
theorem dX3_near_12 : decode cX3_near 12 = .ok (.iload_n 1, 1) := by decide +kernel
theorem dX3_near_13 : decode cX3_near 13 = .ok (.iload_n 2, 1) := by decide +kernel
theorem dX3_near_14 : decode cX3_near 14 = .ok (.iconst (-1), 1) := by decide +kernel
theorem dX3_near_15 : decode cX3_near 15 = .ok (.ixor, 1) := by decide +kernel
theorem dX3_near_16 : decode cX3_near 16 = .ok (.iand, 1) := by decide +kernel
theorem dX3_near_17 : decode cX3_near 17 = .ok (.iconst 1, 1) := by decide +kernel
theorem dX3_near_18 : decode cX3_near 18 = .ok (.ishl, 1) := by decide +kernel
theorem dX3_near_19 : decode cX3_near 19 = .ok (.iload_n 1, 1) := by decide +kernel
theorem dX3_near_20 : decode cX3_near 20 = .ok (.aload_n 0, 1) := by decide +kernel
theorem dX3_near_21 : decode cX3_near 21 = .ok (.getfield 72, 3) := by decide +kernel
theorem dX3_near_24 : decode cX3_near 24 = .ok (.iconst (-1), 1) := by decide +kernel
theorem dX3_near_25 : decode cX3_near 25 = .ok (.ixor, 1) := by decide +kernel
theorem dX3_near_26 : decode cX3_near 26 = .ok (.iand, 1) := by decide +kernel
theorem dX3_near_27 : decode cX3_near 27 = .ok (.iconst 1, 1) := by decide +kernel
theorem dX3_near_28 : decode cX3_near 28 = .ok (.ishr, 1) := by decide +kernel
theorem dX3_near_29 : decode cX3_near 29 = .ok (.ior, 1) := by decide +kernel
theorem dX3_near_30 : decode cX3_near 30 = .ok (.istore_n 3, 1) := by decide +kernel
theorem dX3_near_31 : decode cX3_near 31 = .ok (.iload_n 1, 1) := by decide +kernel
theorem dX3_near_32 : decode cX3_near 32 = .ok (.aload_n 0, 1) := by decide +kernel
theorem dX3_near_33 : decode cX3_near 33 = .ok (.getfield 25, 3) := by decide +kernel
theorem dX3_near_36 : decode cX3_near 36 = .ok (.ishl, 1) := by decide +kernel
theorem dX3_near_37 : decode cX3_near 37 = .ok (.iload_n 1, 1) := by decide +kernel
theorem dX3_near_38 : decode cX3_near 38 = .ok (.aload_n 0, 1) := by decide +kernel
theorem dX3_near_39 : decode cX3_near 39 = .ok (.getfield 25, 3) := by decide +kernel
theorem dX3_near_42 : decode cX3_near 42 = .ok (.ishr, 1) := by decide +kernel
theorem dX3_near_43 : decode cX3_near 43 = .ok (.ior, 1) := by decide +kernel
theorem dX3_near_44 : decode cX3_near 44 = .ok (.istore 4, 2) := by decide +kernel
theorem dX3_near_46 : decode cX3_near 46 = .ok (.iload_n 3, 1) := by decide +kernel
theorem dX3_near_47 : decode cX3_near 47 = .ok (.iload 4, 2) := by decide +kernel
theorem dX3_near_49 : decode cX3_near 49 = .ok (.ior, 1) := by decide +kernel
theorem dX3_near_50 : decode cX3_near 50 = .ok (.aload_n 0, 1) := by decide +kernel
theorem dX3_near_51 : decode cX3_near 51 = .ok (.getfield 69, 3) := by decide +kernel
theorem dX3_near_54 : decode cX3_near 54 = .ok (.iand, 1) := by decide +kernel
theorem dX3_near_55 : decode cX3_near 55 = .ok (.ireturn, 1) := by decide +kernel
def fX3_near (t_columns : Int32) (t_all : Int32) (t_firstColumn : Int32) (p1 : Int32) : Option (Int32) :=
(jl_let (t_firstColumn <<< ((t_columns - ((1 : Int32))) &&& 31)) fun v1 =>
(jl_let (((p1 &&& (v1 ^^^ ((-1 : Int32)))) <<< (((1 : Int32)) &&& 31)) ||| ((p1 &&& (t_firstColumn ^^^ ((-1 : Int32)))) >>> (((1 : Int32)) &&& 31))) fun v2 =>
(jl_let ((p1 <<< (t_columns &&& 31)) ||| (p1 >>> (t_columns &&& 31))) fun v3 =>
(some ((v2 ||| v3) &&& t_all)))))
def oX3_near (D : jv_D) (h_t : Nat) (h_t_ruledOut : Nat) (t_rows : Int32) (t_columns : Int32) (t_paints : Int32) (t_apart : Int32) (t_paintsOf0 : Int32) (t_paintsOf1 : Int32) (t_old : Int32) (t_shut : Int32) (t_all : Int32) (t_firstColumn : Int32) (t_fitsAtFirst : Int32) (t_paintingsOf0 : Int32) (t_paintingsOf1 : Int32) (r : Int32) : va_W := [(h_t, .inr (2, [.int t_rows, .int t_columns, .int t_paints, .int t_apart, .int t_paintsOf0, .int t_paintsOf1, .int t_old, .int t_shut, .int t_all, .int t_firstColumn, .int t_fitsAtFirst, .int t_paintingsOf0, .int t_paintingsOf1, .ref h_t_ruledOut]))]
set_option maxHeartbeats 40000000 in
set_option maxRecDepth 100000 in
theorem mX3_near (l : Launch) (D : jv_D) (h_t : Nat) (h_t_ruledOut : Nat) (t_rows : Int32) (t_columns : Int32) (t_paints : Int32) (t_apart : Int32) (t_paintsOf0 : Int32) (t_paintsOf1 : Int32) (t_old : Int32) (t_shut : Int32) (t_all : Int32) (t_firstColumn : Int32) (t_fitsAtFirst : Int32) (t_paintingsOf0 : Int32) (t_paintingsOf1 : Int32) (p1 : Int32) (r : Int32) (h : fX3_near t_columns t_all t_firstColumn p1 = some r) : MM l yX3_near (jW yX3_near cX3_near 5 (some .int)) ({ frames := 0, cells := 0, slots := 0, locals := 0 }) D [.ref h_t, .int p1] [(h_t, .inr (2, [.int t_rows, .int t_columns, .int t_paints, .int t_apart, .int t_paintsOf0, .int t_paintsOf1, .int t_old, .int t_shut, .int t_all, .int t_firstColumn, .int t_fitsAtFirst, .int t_paintingsOf0, .int t_paintingsOf1, .ref h_t_ruledOut]))] (some (.int r)) (oX3_near D h_t h_t_ruledOut t_rows t_columns t_paints t_apart t_paintsOf0 t_paintsOf1 t_old t_shut t_all t_firstColumn t_fitsAtFirst t_paintingsOf0 t_paintingsOf1 r) := by
  refine mn_of hpX3_near (Nat.le_of_ble_eq_true rfl) ?_
  intro X hXl C E0 hN
  subst hXl
  replace C : JC D X 5 RX3 cX3_near ({ frames := 0, cells := 0, slots := 0, locals := 0 }) := C
  have E : JE D X 0 0 (some .int) (fun _ : Unit => (some (.int r))) (fun _ : Unit => (oX3_near D h_t h_t_ruledOut t_rows t_columns t_paints t_apart t_paintsOf0 t_paintsOf1 t_old t_shut t_all t_firstColumn t_fitsAtFirst t_paintingsOf0 t_paintingsOf1 r)) := E0 0 0 rfl rfl
  clear E0 hN
  show JJ D X 5 0 0 0 [(0, .ref h_t), (1, .int p1)] [] [(h_t, .inr (2, [.int t_rows, .int t_columns, .int t_paints, .int t_apart, .int t_paintsOf0, .int t_paintsOf1, .int t_old, .int t_shut, .int t_all, .int t_firstColumn, .int t_fitsAtFirst, .int t_paintingsOf0, .int t_paintingsOf1, .ref h_t_ruledOut]))]
  unfold fX3_near at h
  refine j_aload_n C dX3_near_0 rfl 0 rfl ?_
  refine j_get C ibX3 (ci := 2) 0 rfl rfl 9 (by decide) bfX3_72 (v := .int t_firstColumn) rfl dX3_near_1 ?_
  refine j_aload_n C dX3_near_4 rfl 0 rfl ?_
  refine j_get C ibX3 (ci := 2) 0 rfl rfl 1 (by decide) bfX3_25 (v := .int t_columns) rfl dX3_near_5 ?_
  refine j_iconst C dX3_near_8 (v := (1 : Int32)) (by decide) ?_
  refine j_isub C dX3_near_9 ?_
  refine j_ishl C dX3_near_10 ?_
  refine j_istore_n C dX3_near_11 rfl (lv' := fun v1 => [(2, .int v1), (0, .ref h_t), (1, .int p1)]) (by decide) (fun _ => rfl) h (fun v1 h => ?_)
  refine j_iload_n C dX3_near_12 rfl 2 rfl ?_
  refine j_iload_n C dX3_near_13 rfl 0 rfl ?_
  refine j_iconst C dX3_near_14 (v := (-1 : Int32)) (by decide) ?_
  refine j_ixor C dX3_near_15 ?_
  refine j_iand C dX3_near_16 ?_
  refine j_iconst C dX3_near_17 (v := (1 : Int32)) (by decide) ?_
  refine j_ishl C dX3_near_18 ?_
  refine j_iload_n C dX3_near_19 rfl 2 rfl ?_
  refine j_aload_n C dX3_near_20 rfl 1 rfl ?_
  refine j_get C ibX3 (ci := 2) 0 rfl rfl 9 (by decide) bfX3_72 (v := .int t_firstColumn) rfl dX3_near_21 ?_
  refine j_iconst C dX3_near_24 (v := (-1 : Int32)) (by decide) ?_
  refine j_ixor C dX3_near_25 ?_
  refine j_iand C dX3_near_26 ?_
  refine j_iconst C dX3_near_27 (v := (1 : Int32)) (by decide) ?_
  refine j_ishr C dX3_near_28 ?_
  refine j_ior C dX3_near_29 ?_
  refine j_istore_n C dX3_near_30 rfl (lv' := fun v2 => [(3, .int v2), (2, .int v1), (0, .ref h_t), (1, .int p1)]) (by decide) (fun _ => rfl) h (fun v2 h => ?_)
  refine j_iload_n C dX3_near_31 rfl 3 rfl ?_
  refine j_aload_n C dX3_near_32 rfl 2 rfl ?_
  refine j_get C ibX3 (ci := 2) 0 rfl rfl 1 (by decide) bfX3_25 (v := .int t_columns) rfl dX3_near_33 ?_
  refine j_ishl C dX3_near_36 ?_
  refine j_iload_n C dX3_near_37 rfl 3 rfl ?_
  refine j_aload_n C dX3_near_38 rfl 2 rfl ?_
  refine j_get C ibX3 (ci := 2) 0 rfl rfl 1 (by decide) bfX3_25 (v := .int t_columns) rfl dX3_near_39 ?_
  refine j_ishr C dX3_near_42 ?_
  refine j_ior C dX3_near_43 ?_
  refine j_istore C dX3_near_44 (lv' := fun v3 => [(4, .int v3), (3, .int v2), (2, .int v1), (0, .ref h_t), (1, .int p1)]) (by decide) (fun _ => rfl) h (fun v3 h => ?_)
  refine j_iload_n C dX3_near_46 rfl 1 rfl ?_
  refine j_iload C dX3_near_47 0 rfl ?_
  refine j_ior C dX3_near_49 ?_
  refine j_aload_n C dX3_near_50 rfl 3 rfl ?_
  refine j_get C ibX3 (ci := 2) 0 rfl rfl 8 (by decide) bfX3_69 (v := .int t_all) rfl dX3_near_51 ?_
  refine j_iand C dX3_near_54 ?_
  exact j_iretR C (r := r) (rtf := fun r => (some (.int r))) (wff := fun r => (oX3_near D h_t h_t_ruledOut t_rows t_columns t_paints t_apart t_paintsOf0 t_paintsOf1 t_old t_shut t_all t_firstColumn t_fitsAtFirst t_paintingsOf0 t_paintingsOf1 r)) E h rfl rfl dX3_near_55
theorem dX3_ruledOutBy_0 : decode cX3_ruledOutBy 0 = .ok (.iconst 0, 1) := by decide +kernel
theorem dX3_ruledOutBy_1 : decode cX3_ruledOutBy 1 = .ok (.istore_n 3, 1) := by decide +kernel
theorem dX3_ruledOutBy_2 : decode cX3_ruledOutBy 2 = .ok (.iconst 1, 1) := by decide +kernel
theorem dX3_ruledOutBy_3 : decode cX3_ruledOutBy 3 = .ok (.istore 4, 2) := by decide +kernel
theorem dX3_ruledOutBy_5 : decode cX3_ruledOutBy 5 = .ok (.iload 4, 2) := by decide +kernel
theorem dX3_ruledOutBy_7 : decode cX3_ruledOutBy 7 = .ok (.iconst 3, 1) := by decide +kernel
theorem dX3_ruledOutBy_8 : decode cX3_ruledOutBy 8 = .ok (.if_icmp .gt 32, 3) := by decide +kernel
theorem dX3_ruledOutBy_11 : decode cX3_ruledOutBy 11 = .ok (.iload_n 3, 1) := by decide +kernel
theorem dX3_ruledOutBy_12 : decode cX3_ruledOutBy 12 = .ok (.aload_n 0, 1) := by decide +kernel
theorem dX3_ruledOutBy_13 : decode cX3_ruledOutBy 13 = .ok (.iload_n 2, 1) := by decide +kernel
theorem dX3_ruledOutBy_14 : decode cX3_ruledOutBy 14 = .ok (.iload 4, 2) := by decide +kernel
theorem dX3_ruledOutBy_16 : decode cX3_ruledOutBy 16 = .ok (.invokevirtual 88, 3) := by decide +kernel
theorem dX3_ruledOutBy_19 : decode cX3_ruledOutBy 19 = .ok (.ifCond .eq 7, 3) := by decide +kernel
theorem dX3_ruledOutBy_22 : decode cX3_ruledOutBy 22 = .ok (.iconst 0, 1) := by decide +kernel
theorem dX3_ruledOutBy_23 : decode cX3_ruledOutBy 23 = .ok (.goto 9, 3) := by decide +kernel
theorem dX3_ruledOutBy_26 : decode cX3_ruledOutBy 26 = .ok (.iconst 1, 1) := by decide +kernel
theorem dX3_ruledOutBy_27 : decode cX3_ruledOutBy 27 = .ok (.iload 4, 2) := by decide +kernel
theorem dX3_ruledOutBy_29 : decode cX3_ruledOutBy 29 = .ok (.iconst 1, 1) := by decide +kernel
theorem dX3_ruledOutBy_30 : decode cX3_ruledOutBy 30 = .ok (.isub, 1) := by decide +kernel
theorem dX3_ruledOutBy_31 : decode cX3_ruledOutBy 31 = .ok (.ishl, 1) := by decide +kernel
theorem dX3_ruledOutBy_32 : decode cX3_ruledOutBy 32 = .ok (.ior, 1) := by decide +kernel
theorem dX3_ruledOutBy_33 : decode cX3_ruledOutBy 33 = .ok (.istore_n 3, 1) := by decide +kernel
theorem dX3_ruledOutBy_34 : decode cX3_ruledOutBy 34 = .ok (.iinc 4 1, 3) := by decide +kernel
theorem dX3_ruledOutBy_37 : decode cX3_ruledOutBy 37 = .ok (.goto (-32), 3) := by decide +kernel
theorem dX3_ruledOutBy_40 : decode cX3_ruledOutBy 40 = .ok (.iconst 1, 1) := by decide +kernel
theorem dX3_ruledOutBy_41 : decode cX3_ruledOutBy 41 = .ok (.iload_n 1, 1) := by decide +kernel
theorem dX3_ruledOutBy_42 : decode cX3_ruledOutBy 42 = .ok (.ishl, 1) := by decide +kernel
theorem dX3_ruledOutBy_43 : decode cX3_ruledOutBy 43 = .ok (.bipush 7, 2) := by decide +kernel
theorem dX3_ruledOutBy_45 : decode cX3_ruledOutBy 45 = .ok (.invokestatic 75, 3) := by decide +kernel
theorem dX3_ruledOutBy_48 : decode cX3_ruledOutBy 48 = .ok (.aload_n 0, 1) := by decide +kernel
theorem dX3_ruledOutBy_49 : decode cX3_ruledOutBy 49 = .ok (.iconst 1, 1) := by decide +kernel
theorem dX3_ruledOutBy_50 : decode cX3_ruledOutBy 50 = .ok (.iload_n 1, 1) := by decide +kernel
theorem dX3_ruledOutBy_51 : decode cX3_ruledOutBy 51 = .ok (.ishl, 1) := by decide +kernel
theorem dX3_ruledOutBy_52 : decode cX3_ruledOutBy 52 = .ok (.invokevirtual 92, 3) := by decide +kernel
theorem dX3_ruledOutBy_55 : decode cX3_ruledOutBy 55 = .ok (.iload_n 3, 1) := by decide +kernel
theorem dX3_ruledOutBy_56 : decode cX3_ruledOutBy 56 = .ok (.invokestatic 75, 3) := by decide +kernel
theorem dX3_ruledOutBy_59 : decode cX3_ruledOutBy 59 = .ok (.ior, 1) := by decide +kernel
theorem dX3_ruledOutBy_60 : decode cX3_ruledOutBy 60 = .ok (.ireturn, 1) := by decide +kernel
def fX3_ruledOutBy_32 (F : Nat) (t_columns : Int32) (t_apart : Int32) (t_all : Int32) (t_firstColumn : Int32) (p1 : Int32) (p2 : Int32) (k5 : Int32 → Int32 → Option (Int32)) (x13 : Int32) (s14 : Int32) (s15 : Int32) : Option (Int32) :=
(jl_let (s15 ||| s14) fun v16 =>
(jl_let (x13 + Int32.ofInt (1)) fun v17 =>
(k5 v16 v17)))
def bX3_ruledOutBy_5 (F : Nat) (t_columns : Int32) (t_apart : Int32) (t_all : Int32) (t_firstColumn : Int32) (p1 : Int32) (p2 : Int32)  (k5 : Int32 → Int32 → Option (Int32)) (x1 : Int32) (x2 : Int32) : Option (Int32) :=
(if ((3 : Int32)) < x2 then
((fX3_inPaints F (((1 : Int32)) <<< (p1 &&& 31)) ((7 : Int32))).bind fun r4 =>
((fX3_near t_columns t_all t_firstColumn (((1 : Int32)) <<< (p1 &&& 31))).bind fun r6 =>
((fX3_inPaints F r6 x1).bind fun r8 =>
(some (r4 ||| r8)))))
else
((fX3_mayTouch t_apart p2 x2).bind fun r10 =>
(if r10 = 0 then
(fX3_ruledOutBy_32 F t_columns t_apart t_all t_firstColumn p1 p2 k5 x2 (((1 : Int32)) <<< ((x2 - ((1 : Int32))) &&& 31)) x1)
else
(fX3_ruledOutBy_32 F t_columns t_apart t_all t_firstColumn p1 p2 k5 x2 ((0 : Int32)) x1))))
def lX3_ruledOutBy_5 (F : Nat) (t_columns : Int32) (t_apart : Int32) (t_all : Int32) (t_firstColumn : Int32) (p1 : Int32) (p2 : Int32)  (F2 : Nat) (x1 : Int32) (x2 : Int32) : Option (Int32) := jl_loop2 (bX3_ruledOutBy_5 F t_columns t_apart t_all t_firstColumn p1 p2 ) F2 x1 x2
def fX3_ruledOutBy (F : Nat) (t_columns : Int32) (t_apart : Int32) (t_all : Int32) (t_firstColumn : Int32) (p1 : Int32) (p2 : Int32) : Option (Int32) :=
(lX3_ruledOutBy_5 F t_columns t_apart t_all t_firstColumn p1 p2 F ((0 : Int32)) ((1 : Int32)))
def oX3_ruledOutBy (D : jv_D) (h_t : Nat) (h_t_ruledOut : Nat) (t_rows : Int32) (t_columns : Int32) (t_paints : Int32) (t_apart : Int32) (t_paintsOf0 : Int32) (t_paintsOf1 : Int32) (t_old : Int32) (t_shut : Int32) (t_all : Int32) (t_firstColumn : Int32) (t_fitsAtFirst : Int32) (t_paintingsOf0 : Int32) (t_paintingsOf1 : Int32) (r : Int32) : va_W := [(h_t, .inr (2, [.int t_rows, .int t_columns, .int t_paints, .int t_apart, .int t_paintsOf0, .int t_paintsOf1, .int t_old, .int t_shut, .int t_all, .int t_firstColumn, .int t_fitsAtFirst, .int t_paintingsOf0, .int t_paintingsOf1, .ref h_t_ruledOut]))]
set_option maxHeartbeats 40000000 in
set_option maxRecDepth 100000 in
theorem mX3_ruledOutBy (l : Launch) (D : jv_D) (F : Nat) (h_t : Nat) (h_t_ruledOut : Nat) (t_rows : Int32) (t_columns : Int32) (t_paints : Int32) (t_apart : Int32) (t_paintsOf0 : Int32) (t_paintsOf1 : Int32) (t_old : Int32) (t_shut : Int32) (t_all : Int32) (t_firstColumn : Int32) (t_fitsAtFirst : Int32) (t_paintingsOf0 : Int32) (t_paintingsOf1 : Int32) (p1 : Int32) (p2 : Int32) (r : Int32) (h : fX3_ruledOutBy F t_columns t_apart t_all t_firstColumn p1 p2 = some r) : MM l yX3_ruledOutBy (jW yX3_ruledOutBy cX3_ruledOutBy 5 (some .int)) ({ frames := 2, cells := 0, slots := 0, locals := 43 }) D [.ref h_t, .int p1, .int p2] [(h_t, .inr (2, [.int t_rows, .int t_columns, .int t_paints, .int t_apart, .int t_paintsOf0, .int t_paintsOf1, .int t_old, .int t_shut, .int t_all, .int t_firstColumn, .int t_fitsAtFirst, .int t_paintingsOf0, .int t_paintingsOf1, .ref h_t_ruledOut]))] (some (.int r)) (oX3_ruledOutBy D h_t h_t_ruledOut t_rows t_columns t_paints t_apart t_paintsOf0 t_paintsOf1 t_old t_shut t_all t_firstColumn t_fitsAtFirst t_paintingsOf0 t_paintingsOf1 r) := by
  refine mn_of hpX3_ruledOutBy (Nat.le_of_ble_eq_true rfl) ?_
  intro X hXl C E0 hN
  subst hXl
  replace C : JC D X 5 RX3 cX3_ruledOutBy ({ frames := 2, cells := 0, slots := 0, locals := 43 }) := C
  have E : JE D X 0 0 (some .int) (fun _ : Unit => (some (.int r))) (fun _ : Unit => (oX3_ruledOutBy D h_t h_t_ruledOut t_rows t_columns t_paints t_apart t_paintsOf0 t_paintsOf1 t_old t_shut t_all t_firstColumn t_fitsAtFirst t_paintingsOf0 t_paintingsOf1 r)) := E0 0 0 rfl rfl
  clear E0 hN
  show JJ D X 5 0 0 0 [(0, .ref h_t), (1, .int p1), (2, .int p2)] [] [(h_t, .inr (2, [.int t_rows, .int t_columns, .int t_paints, .int t_apart, .int t_paintsOf0, .int t_paintsOf1, .int t_old, .int t_shut, .int t_all, .int t_firstColumn, .int t_fitsAtFirst, .int t_paintingsOf0, .int t_paintingsOf1, .ref h_t_ruledOut]))]
  unfold fX3_ruledOutBy at h
  have L5 : ∀ (x1 : Int32) (x2 : Int32), lX3_ruledOutBy_5 F t_columns t_apart t_all t_firstColumn p1 p2  F x1 x2 = some r → JJ D X 5 0 0 5 [(0, .ref h_t), (1, .int p1), (2, .int p2), (3, .int x1), (4, .int x2)] [] [(h_t, .inr (2, [.int t_rows, .int t_columns, .int t_paints, .int t_apart, .int t_paintsOf0, .int t_paintsOf1, .int t_old, .int t_shut, .int t_all, .int t_firstColumn, .int t_fitsAtFirst, .int t_paintingsOf0, .int t_paintingsOf1, .ref h_t_ruledOut]))] := by
    intro x1 x2 h
    refine jl_ind2 (fun x1 x2 => JJ D X 5 0 0 5 [(0, .ref h_t), (1, .int p1), (2, .int p2), (3, .int x1), (4, .int x2)] [] [(h_t, .inr (2, [.int t_rows, .int t_columns, .int t_paints, .int t_apart, .int t_paintsOf0, .int t_paintsOf1, .int t_old, .int t_shut, .int t_all, .int t_firstColumn, .int t_fitsAtFirst, .int t_paintingsOf0, .int t_paintingsOf1, .ref h_t_ruledOut]))]) ?_ F x1 x2 h
    clear h x1 x2
    intro k5 i5 x1 x2 h
    replace i5 : ∀ (x1 : Int32) (x2 : Int32), k5 x1 x2 = some r → JJ D X 5 0 0 5 [(0, .ref h_t), (1, .int p1), (2, .int p2), (3, .int x1), (4, .int x2)] [] [(h_t, .inr (2, [.int t_rows, .int t_columns, .int t_paints, .int t_apart, .int t_paintsOf0, .int t_paintsOf1, .int t_old, .int t_shut, .int t_all, .int t_firstColumn, .int t_fitsAtFirst, .int t_paintingsOf0, .int t_paintingsOf1, .ref h_t_ruledOut]))] := i5
    show JJ D X 5 0 0 5 [(0, .ref h_t), (1, .int p1), (2, .int p2), (3, .int x1), (4, .int x2)] [] [(h_t, .inr (2, [.int t_rows, .int t_columns, .int t_paints, .int t_apart, .int t_paintsOf0, .int t_paintsOf1, .int t_old, .int t_shut, .int t_all, .int t_firstColumn, .int t_fitsAtFirst, .int t_paintingsOf0, .int t_paintingsOf1, .ref h_t_ruledOut]))]
    unfold bX3_ruledOutBy_5 at h
    have L32 : ∀ (x13 : Int32) (s14 : Int32) (s15 : Int32), fX3_ruledOutBy_32 F t_columns t_apart t_all t_firstColumn p1 p2 k5 x13 s14 s15 = some r → JJ D X 5 0 0 32 [(0, .ref h_t), (1, .int p1), (2, .int p2), (4, .int x13)] [.int s14, .int s15] [(h_t, .inr (2, [.int t_rows, .int t_columns, .int t_paints, .int t_apart, .int t_paintsOf0, .int t_paintsOf1, .int t_old, .int t_shut, .int t_all, .int t_firstColumn, .int t_fitsAtFirst, .int t_paintingsOf0, .int t_paintingsOf1, .ref h_t_ruledOut]))] := by
      intro x13 s14 s15 h
      unfold fX3_ruledOutBy_32 at h
      refine j_ior C dX3_ruledOutBy_32 ?_
      refine j_istore_n C dX3_ruledOutBy_33 rfl (lv' := fun v16 => [(3, .int v16), (0, .ref h_t), (1, .int p1), (2, .int p2), (4, .int x13)]) (by decide) (fun _ => rfl) h (fun v16 h => ?_)
      refine j_iinc C dX3_ruledOutBy_34 4 rfl (lv' := fun v17 => [(4, .int v17), (3, .int v16), (0, .ref h_t), (1, .int p1), (2, .int p2)]) (by decide) (fun _ => rfl) h (fun v17 h => ?_)
      refine j_goto C dX3_ruledOutBy_37 (tgt := 5) (by decide) ?_
      refine j_sub (lv' := [(0, .ref h_t), (1, .int p1), (2, .int p2), (3, .int v16), (4, .int v17)]) [2, 3, 4, 1, 0] rfl ?_
      exact i5 v16 v17 h
    refine j_iload C dX3_ruledOutBy_5 4 rfl ?_
    refine j_iconst C dX3_ruledOutBy_7 (v := (3 : Int32)) (by decide) ?_
    refine j_icmp_gt C (tgt := 40) dX3_ruledOutBy_8 (by decide) h (fun c3 h => ?_) (fun c3 h => ?_)
    · refine j_iconst C dX3_ruledOutBy_40 (v := (1 : Int32)) (by decide) ?_
      refine j_iload_n C dX3_ruledOutBy_41 rfl 1 rfl ?_
      refine j_ishl C dX3_ruledOutBy_42 ?_
      refine j_bipush C dX3_ruledOutBy_43 (v := (7 : Int32)) (by decide) ?_
      obtain ⟨r4, q5, h⟩ := jl_bind h
      refine j_cS1 C (mX3_inPaints (jlaunch X) D F (((1 : Int32)) <<< (p1 &&& 31)) ((7 : Int32)) r4 q5) bmX3_75 btX3_inPaints bzX3 bcX3_inPaints hX3_inPaints (rest := []) rfl (jroom_of rfl) [] [0] [0] (wr := [(h_t, .inr (2, [.int t_rows, .int t_columns, .int t_paints, .int t_apart, .int t_paintsOf0, .int t_paintsOf1, .int t_old, .int t_shut, .int t_all, .int t_firstColumn, .int t_fitsAtFirst, .int t_paintingsOf0, .int t_paintingsOf1, .ref h_t_ruledOut]))]) (ws2 := [(h_t, .inr (2, [.int t_rows, .int t_columns, .int t_paints, .int t_apart, .int t_paintsOf0, .int t_paintsOf1, .int t_old, .int t_shut, .int t_all, .int t_firstColumn, .int t_fitsAtFirst, .int t_paintingsOf0, .int t_paintingsOf1, .ref h_t_ruledOut]))]) rfl rfl rfl rfl rfl (Nat.le_of_ble_eq_true rfl) dX3_ruledOutBy_45 ?_
      refine j_aload_n C dX3_ruledOutBy_48 rfl 0 rfl ?_
      refine j_iconst C dX3_ruledOutBy_49 (v := (1 : Int32)) (by decide) ?_
      refine j_iload_n C dX3_ruledOutBy_50 rfl 1 rfl ?_
      refine j_ishl C dX3_ruledOutBy_51 ?_
      obtain ⟨r6, q7, h⟩ := jl_bind h
      refine j_cV1 C (mX3_near (jlaunch X) D h_t h_t_ruledOut t_rows t_columns t_paints t_apart t_paintsOf0 t_paintsOf1 t_old t_shut t_all t_firstColumn t_fitsAtFirst t_paintingsOf0 t_paintingsOf1 (((1 : Int32)) <<< (p1 &&& 31)) r6 q7) bmX3_92 biX3_near bsX3_near bzX3 bcX3_near rfl hX3_near (rest := [.int r4]) rfl (jroom_of rfl) 0 (ci := 2) rfl rfl rfl [0] [] [0] (wr := []) (ws2 := [(h_t, .inr (2, [.int t_rows, .int t_columns, .int t_paints, .int t_apart, .int t_paintsOf0, .int t_paintsOf1, .int t_old, .int t_shut, .int t_all, .int t_firstColumn, .int t_fitsAtFirst, .int t_paintingsOf0, .int t_paintingsOf1, .ref h_t_ruledOut]))]) rfl rfl rfl rfl rfl (Nat.le_of_ble_eq_true rfl) dX3_ruledOutBy_52 ?_
      refine j_iload_n C dX3_ruledOutBy_55 rfl 3 rfl ?_
      obtain ⟨r8, q9, h⟩ := jl_bind h
      refine j_cS1 C (mX3_inPaints (jlaunch X) D F r6 x1 r8 q9) bmX3_75 btX3_inPaints bzX3 bcX3_inPaints hX3_inPaints (rest := [.int r4]) rfl (jroom_of rfl) [] [0] [0] (wr := [(h_t, .inr (2, [.int t_rows, .int t_columns, .int t_paints, .int t_apart, .int t_paintsOf0, .int t_paintsOf1, .int t_old, .int t_shut, .int t_all, .int t_firstColumn, .int t_fitsAtFirst, .int t_paintingsOf0, .int t_paintingsOf1, .ref h_t_ruledOut]))]) (ws2 := [(h_t, .inr (2, [.int t_rows, .int t_columns, .int t_paints, .int t_apart, .int t_paintsOf0, .int t_paintsOf1, .int t_old, .int t_shut, .int t_all, .int t_firstColumn, .int t_fitsAtFirst, .int t_paintingsOf0, .int t_paintingsOf1, .ref h_t_ruledOut]))]) rfl rfl rfl rfl rfl (Nat.le_of_ble_eq_true rfl) dX3_ruledOutBy_56 ?_
      refine j_ior C dX3_ruledOutBy_59 ?_
      exact j_iretR C (r := r) (rtf := fun r => (some (.int r))) (wff := fun r => (oX3_ruledOutBy D h_t h_t_ruledOut t_rows t_columns t_paints t_apart t_paintsOf0 t_paintsOf1 t_old t_shut t_all t_firstColumn t_fitsAtFirst t_paintingsOf0 t_paintingsOf1 r)) E h rfl rfl dX3_ruledOutBy_60
    · refine j_iload_n C dX3_ruledOutBy_11 rfl 3 rfl ?_
      refine j_aload_n C dX3_ruledOutBy_12 rfl 0 rfl ?_
      refine j_iload_n C dX3_ruledOutBy_13 rfl 2 rfl ?_
      refine j_iload C dX3_ruledOutBy_14 4 rfl ?_
      obtain ⟨r10, q11, h⟩ := jl_bind h
      refine j_cV1 C (mX3_mayTouch (jlaunch X) D h_t h_t_ruledOut t_rows t_columns t_paints t_apart t_paintsOf0 t_paintsOf1 t_old t_shut t_all t_firstColumn t_fitsAtFirst t_paintingsOf0 t_paintingsOf1 p2 x2 r10 q11) bmX3_88 biX3_mayTouch bsX3_mayTouch bzX3 bcX3_mayTouch rfl hX3_mayTouch (rest := [.int x1]) rfl (jroom_of rfl) 0 (ci := 2) rfl rfl rfl [0] [] [0] (wr := []) (ws2 := [(h_t, .inr (2, [.int t_rows, .int t_columns, .int t_paints, .int t_apart, .int t_paintsOf0, .int t_paintsOf1, .int t_old, .int t_shut, .int t_all, .int t_firstColumn, .int t_fitsAtFirst, .int t_paintingsOf0, .int t_paintingsOf1, .ref h_t_ruledOut]))]) rfl rfl rfl rfl rfl (Nat.le_of_ble_eq_true rfl) dX3_ruledOutBy_16 ?_
      refine j_if_eq C (tgt := 26) dX3_ruledOutBy_19 (by decide) h (fun c12 h => ?_) (fun c12 h => ?_)
      · refine j_iconst C dX3_ruledOutBy_26 (v := (1 : Int32)) (by decide) ?_
        refine j_iload C dX3_ruledOutBy_27 4 rfl ?_
        refine j_iconst C dX3_ruledOutBy_29 (v := (1 : Int32)) (by decide) ?_
        refine j_isub C dX3_ruledOutBy_30 ?_
        refine j_ishl C dX3_ruledOutBy_31 ?_
        refine j_sub (lv' := [(0, .ref h_t), (1, .int p1), (2, .int p2), (4, .int x2)]) [0, 1, 2, 4] rfl ?_
        exact L32 x2 (((1 : Int32)) <<< ((x2 - ((1 : Int32))) &&& 31)) x1 h
      · refine j_iconst C dX3_ruledOutBy_22 (v := (0 : Int32)) (by decide) ?_
        refine j_goto C dX3_ruledOutBy_23 (tgt := 32) (by decide) ?_
        refine j_sub (lv' := [(0, .ref h_t), (1, .int p1), (2, .int p2), (4, .int x2)]) [0, 1, 2, 4] rfl ?_
        exact L32 x2 ((0 : Int32)) x1 h
  refine j_iconst C dX3_ruledOutBy_0 (v := (0 : Int32)) (by decide) ?_
  refine j_istore_nC C dX3_ruledOutBy_1 rfl (lv' := [(3, .int ((0 : Int32))), (0, .ref h_t), (1, .int p1), (2, .int p2)]) (by decide) rfl ?_
  refine j_iconst C dX3_ruledOutBy_2 (v := (1 : Int32)) (by decide) ?_
  refine j_istoreC C dX3_ruledOutBy_3 (lv' := [(4, .int ((1 : Int32))), (3, .int ((0 : Int32))), (0, .ref h_t), (1, .int p1), (2, .int p2)]) (by decide) rfl ?_
  refine j_sub (lv' := [(0, .ref h_t), (1, .int p1), (2, .int p2), (3, .int ((0 : Int32))), (4, .int ((1 : Int32)))]) [2, 3, 4, 1, 0] rfl ?_
  exact L5 ((0 : Int32)) ((1 : Int32)) h
theorem dX3_settle_0 : decode cX3_settle 0 = .ok (.aload_n 0, 1) := by decide +kernel
theorem dX3_settle_1 : decode cX3_settle 1 = .ok (.iconst 1, 1) := by decide +kernel
theorem dX3_settle_2 : decode cX3_settle 2 = .ok (.aload_n 0, 1) := by decide +kernel
theorem dX3_settle_3 : decode cX3_settle 3 = .ok (.invokevirtual 46, 3) := by decide +kernel
theorem dX3_settle_6 : decode cX3_settle 6 = .ok (.ishl, 1) := by decide +kernel
theorem dX3_settle_7 : decode cX3_settle 7 = .ok (.iconst 1, 1) := by decide +kernel
theorem dX3_settle_8 : decode cX3_settle 8 = .ok (.isub, 1) := by decide +kernel
theorem dX3_settle_9 : decode cX3_settle 9 = .ok (.putfield 69, 3) := by decide +kernel
theorem dX3_settle_12 : decode cX3_settle 12 = .ok (.aload_n 0, 1) := by decide +kernel
theorem dX3_settle_13 : decode cX3_settle 13 = .ok (.iconst 0, 1) := by decide +kernel
theorem dX3_settle_14 : decode cX3_settle 14 = .ok (.putfield 72, 3) := by decide +kernel
theorem dX3_settle_17 : decode cX3_settle 17 = .ok (.iconst 0, 1) := by decide +kernel
theorem dX3_settle_18 : decode cX3_settle 18 = .ok (.istore_n 1, 1) := by decide +kernel
theorem dX3_settle_19 : decode cX3_settle 19 = .ok (.iload_n 1, 1) := by decide +kernel
theorem dX3_settle_20 : decode cX3_settle 20 = .ok (.bipush 9, 2) := by decide +kernel
theorem dX3_settle_22 : decode cX3_settle 22 = .ok (.if_icmp .ge 34, 3) := by decide +kernel
theorem dX3_settle_25 : decode cX3_settle 25 = .ok (.iload_n 1, 1) := by decide +kernel
theorem dX3_settle_26 : decode cX3_settle 26 = .ok (.aload_n 0, 1) := by decide +kernel
theorem dX3_settle_27 : decode cX3_settle 27 = .ok (.getfield 21, 3) := by decide +kernel
theorem dX3_settle_30 : decode cX3_settle 30 = .ok (.if_icmp .ge 26, 3) := by decide +kernel
theorem dX3_settle_33 : decode cX3_settle 33 = .ok (.aload_n 0, 1) := by decide +kernel
theorem dX3_settle_34 : decode cX3_settle 34 = .ok (.dup, 1) := by decide +kernel
theorem dX3_settle_35 : decode cX3_settle 35 = .ok (.getfield 72, 3) := by decide +kernel
theorem dX3_settle_38 : decode cX3_settle 38 = .ok (.iconst 1, 1) := by decide +kernel
theorem dX3_settle_39 : decode cX3_settle 39 = .ok (.iload_n 1, 1) := by decide +kernel
theorem dX3_settle_40 : decode cX3_settle 40 = .ok (.aload_n 0, 1) := by decide +kernel
theorem dX3_settle_41 : decode cX3_settle 41 = .ok (.getfield 25, 3) := by decide +kernel
theorem dX3_settle_44 : decode cX3_settle 44 = .ok (.imul, 1) := by decide +kernel
theorem dX3_settle_45 : decode cX3_settle 45 = .ok (.ishl, 1) := by decide +kernel
theorem dX3_settle_46 : decode cX3_settle 46 = .ok (.ior, 1) := by decide +kernel
theorem dX3_settle_47 : decode cX3_settle 47 = .ok (.putfield 72, 3) := by decide +kernel
theorem dX3_settle_50 : decode cX3_settle 50 = .ok (.iinc 1 1, 3) := by decide +kernel
theorem dX3_settle_53 : decode cX3_settle 53 = .ok (.goto (-34), 3) := by decide +kernel
theorem dX3_settle_56 : decode cX3_settle 56 = .ok (.aload_n 0, 1) := by decide +kernel
theorem dX3_settle_57 : decode cX3_settle 57 = .ok (.getfield 69, 3) := by decide +kernel
theorem dX3_settle_60 : decode cX3_settle 60 = .ok (.aload_n 0, 1) := by decide +kernel
theorem dX3_settle_61 : decode cX3_settle 61 = .ok (.getfield 43, 3) := by decide +kernel
theorem dX3_settle_64 : decode cX3_settle 64 = .ok (.iconst (-1), 1) := by decide +kernel
theorem dX3_settle_65 : decode cX3_settle 65 = .ok (.ixor, 1) := by decide +kernel
theorem dX3_settle_66 : decode cX3_settle 66 = .ok (.iand, 1) := by decide +kernel
theorem dX3_settle_67 : decode cX3_settle 67 = .ok (.istore_n 1, 1) := by decide +kernel
theorem dX3_settle_68 : decode cX3_settle 68 = .ok (.aload_n 0, 1) := by decide +kernel
theorem dX3_settle_69 : decode cX3_settle 69 = .ok (.iload_n 1, 1) := by decide +kernel
theorem dX3_settle_70 : decode cX3_settle 70 = .ok (.aload_n 0, 1) := by decide +kernel
theorem dX3_settle_71 : decode cX3_settle 71 = .ok (.invokevirtual 50, 3) := by decide +kernel
theorem dX3_settle_74 : decode cX3_settle 74 = .ok (.invokestatic 75, 3) := by decide +kernel
theorem dX3_settle_77 : decode cX3_settle 77 = .ok (.putfield 78, 3) := by decide +kernel
theorem dX3_settle_80 : decode cX3_settle 80 = .ok (.aload_n 0, 1) := by decide +kernel
theorem dX3_settle_81 : decode cX3_settle 81 = .ok (.iload_n 1, 1) := by decide +kernel
theorem dX3_settle_82 : decode cX3_settle 82 = .ok (.aload_n 0, 1) := by decide +kernel
theorem dX3_settle_83 : decode cX3_settle 83 = .ok (.iconst 0, 1) := by decide +kernel
theorem dX3_settle_84 : decode cX3_settle 84 = .ok (.invokevirtual 81, 3) := by decide +kernel
theorem dX3_settle_87 : decode cX3_settle 87 = .ok (.invokestatic 75, 3) := by decide +kernel
theorem dX3_settle_90 : decode cX3_settle 90 = .ok (.putfield 53, 3) := by decide +kernel
theorem dX3_settle_93 : decode cX3_settle 93 = .ok (.aload_n 0, 1) := by decide +kernel
theorem dX3_settle_94 : decode cX3_settle 94 = .ok (.iload_n 1, 1) := by decide +kernel
theorem dX3_settle_95 : decode cX3_settle 95 = .ok (.aload_n 0, 1) := by decide +kernel
theorem dX3_settle_96 : decode cX3_settle 96 = .ok (.iconst 1, 1) := by decide +kernel
theorem dX3_settle_97 : decode cX3_settle 97 = .ok (.invokevirtual 81, 3) := by decide +kernel
theorem dX3_settle_100 : decode cX3_settle 100 = .ok (.invokestatic 75, 3) := by decide +kernel
theorem dX3_settle_103 : decode cX3_settle 103 = .ok (.putfield 56, 3) := by decide +kernel
theorem dX3_settle_106 : decode cX3_settle 106 = .ok (.iconst 0, 1) := by decide +kernel
theorem dX3_settle_107 : decode cX3_settle 107 = .ok (.istore_n 2, 1) := by decide +kernel
theorem dX3_settle_108 : decode cX3_settle 108 = .ok (.iload_n 2, 1) := by decide +kernel
theorem dX3_settle_109 : decode cX3_settle 109 = .ok (.aload_n 0, 1) := by decide +kernel
theorem dX3_settle_110 : decode cX3_settle 110 = .ok (.getfield 9, 3) := by decide +kernel
theorem dX3_settle_113 : decode cX3_settle 113 = .ok (.arraylength, 1) := by decide +kernel
theorem dX3_settle_114 : decode cX3_settle 114 = .ok (.if_icmp .ge 29, 3) := by decide +kernel
theorem dX3_settle_117 : decode cX3_settle 117 = .ok (.aload_n 0, 1) := by decide +kernel
theorem dX3_settle_118 : decode cX3_settle 118 = .ok (.getfield 9, 3) := by decide +kernel
theorem dX3_settle_121 : decode cX3_settle 121 = .ok (.iload_n 2, 1) := by decide +kernel
theorem dX3_settle_122 : decode cX3_settle 122 = .ok (.aload_n 0, 1) := by decide +kernel
theorem dX3_settle_123 : decode cX3_settle 123 = .ok (.iload_n 2, 1) := by decide +kernel
theorem dX3_settle_124 : decode cX3_settle 124 = .ok (.bipush 9, 2) := by decide +kernel
theorem dX3_settle_126 : decode cX3_settle 126 = .ok (.irem, 1) := by decide +kernel
theorem dX3_settle_127 : decode cX3_settle 127 = .ok (.iload_n 2, 1) := by decide +kernel
theorem dX3_settle_128 : decode cX3_settle 128 = .ok (.bipush 9, 2) := by decide +kernel
theorem dX3_settle_130 : decode cX3_settle 130 = .ok (.idiv, 1) := by decide +kernel
theorem dX3_settle_131 : decode cX3_settle 131 = .ok (.iconst 1, 1) := by decide +kernel
theorem dX3_settle_132 : decode cX3_settle 132 = .ok (.iadd, 1) := by decide +kernel
theorem dX3_settle_133 : decode cX3_settle 133 = .ok (.invokevirtual 85, 3) := by decide +kernel
theorem dX3_settle_136 : decode cX3_settle 136 = .ok (.iastore, 1) := by decide +kernel
theorem dX3_settle_137 : decode cX3_settle 137 = .ok (.iinc 2 1, 3) := by decide +kernel
theorem dX3_settle_140 : decode cX3_settle 140 = .ok (.goto (-32), 3) := by decide +kernel
theorem dX3_settle_143 : decode cX3_settle 143 = .ok (.return_, 1) := by decide +kernel
def bX3_settle_108 (F : Nat) (t_rows : Int32) (t_columns : Int32) (t_paints : Int32) (t_apart : Int32) (t_paintsOf0 : Int32) (t_paintsOf1 : Int32) (t_shut : Int32)  (k108 : Int32 → Int32 → Int32 → Int32 → Int32 → Int32 → (Nat → Int32) → Option (Int32 × Int32 × Int32 × Int32 × Int32 × (Nat → Int32))) (x34 : Int32) (m_t_all_35 : Int32) (m_t_firstColumn_36 : Int32) (m_t_fitsAtFirst_37 : Int32) (m_t_paintingsOf0_38 : Int32) (m_t_paintingsOf1_39 : Int32) (m_t_ruledOut__40 : Nat → Int32) : Option (Int32 × Int32 × Int32 × Int32 × Int32 × (Nat → Int32)) :=
(if ((27 : Int32)) ≤ x34 then
(some (m_t_all_35, m_t_firstColumn_36, m_t_fitsAtFirst_37, m_t_paintingsOf0_38, m_t_paintingsOf1_39, m_t_ruledOut__40))
else
((fX3_ruledOutBy F t_columns t_apart m_t_all_35 m_t_firstColumn_36 (x34 - x34 / ((9 : Int32)) * ((9 : Int32))) ((x34 / ((9 : Int32))) + ((1 : Int32)))).bind fun r42 =>
(if x34 < 0 ∨ 27 ≤ x34.toNatClampNeg then none else
(jl_let (upd m_t_ruledOut__40 x34.toNatClampNeg r42) fun g45 =>
(jl_let (x34 + Int32.ofInt (1)) fun v46 =>
(k108 v46 m_t_all_35 m_t_firstColumn_36 m_t_fitsAtFirst_37 m_t_paintingsOf0_38 m_t_paintingsOf1_39 g45))))))
def lX3_settle_108 (F : Nat) (t_rows : Int32) (t_columns : Int32) (t_paints : Int32) (t_apart : Int32) (t_paintsOf0 : Int32) (t_paintsOf1 : Int32) (t_shut : Int32)  (F2 : Nat) (x34 : Int32) (m_t_all_35 : Int32) (m_t_firstColumn_36 : Int32) (m_t_fitsAtFirst_37 : Int32) (m_t_paintingsOf0_38 : Int32) (m_t_paintingsOf1_39 : Int32) (m_t_ruledOut__40 : Nat → Int32) : Option (Int32 × Int32 × Int32 × Int32 × Int32 × (Nat → Int32)) := jl_loop7 (bX3_settle_108 F t_rows t_columns t_paints t_apart t_paintsOf0 t_paintsOf1 t_shut ) F2 x34 m_t_all_35 m_t_firstColumn_36 m_t_fitsAtFirst_37 m_t_paintingsOf0_38 m_t_paintingsOf1_39 m_t_ruledOut__40
def fX3_settle_56 (F : Nat) (t_rows : Int32) (t_columns : Int32) (t_paints : Int32) (t_apart : Int32) (t_paintsOf0 : Int32) (t_paintsOf1 : Int32) (t_shut : Int32)  (m_t_all_12 : Int32) (m_t_firstColumn_13 : Int32) (m_t_fitsAtFirst_14 : Int32) (m_t_paintingsOf0_15 : Int32) (m_t_paintingsOf1_16 : Int32) (m_t_ruledOut__17 : Nat → Int32) : Option (Int32 × Int32 × Int32 × Int32 × Int32 × (Nat → Int32)) :=
(jl_let (m_t_all_12 &&& (t_shut ^^^ ((-1 : Int32)))) fun v21 =>
((fX3_allPaints t_paints).bind fun r22 =>
((fX3_inPaints F v21 r22).bind fun r24 =>
((fX3_paintsOf t_paints t_paintsOf0 t_paintsOf1 ((0 : Int32))).bind fun r26 =>
((fX3_inPaints F v21 r26).bind fun r28 =>
((fX3_paintsOf t_paints t_paintsOf0 t_paintsOf1 ((1 : Int32))).bind fun r30 =>
((fX3_inPaints F v21 r30).bind fun r32 =>
(lX3_settle_108 F t_rows t_columns t_paints t_apart t_paintsOf0 t_paintsOf1 t_shut F ((0 : Int32)) m_t_all_12 m_t_firstColumn_13 r24 r28 r32 m_t_ruledOut__17))))))))
def bX3_settle_19 (F : Nat) (t_rows : Int32) (t_columns : Int32) (t_paints : Int32) (t_apart : Int32) (t_paintsOf0 : Int32) (t_paintsOf1 : Int32) (t_shut : Int32)  (k19 : Int32 → Int32 → Int32 → Int32 → Int32 → Int32 → (Nat → Int32) → Option (Int32 × Int32 × Int32 × Int32 × Int32 × (Nat → Int32))) (x4 : Int32) (m_t_all_5 : Int32) (m_t_firstColumn_6 : Int32) (m_t_fitsAtFirst_7 : Int32) (m_t_paintingsOf0_8 : Int32) (m_t_paintingsOf1_9 : Int32) (m_t_ruledOut__10 : Nat → Int32) : Option (Int32 × Int32 × Int32 × Int32 × Int32 × (Nat → Int32)) :=
(if ((9 : Int32)) ≤ x4 then
(fX3_settle_56 F t_rows t_columns t_paints t_apart t_paintsOf0 t_paintsOf1 t_shut m_t_all_5 m_t_firstColumn_6 m_t_fitsAtFirst_7 m_t_paintingsOf0_8 m_t_paintingsOf1_9 m_t_ruledOut__10)
else
(if t_rows ≤ x4 then
(fX3_settle_56 F t_rows t_columns t_paints t_apart t_paintsOf0 t_paintsOf1 t_shut m_t_all_5 m_t_firstColumn_6 m_t_fitsAtFirst_7 m_t_paintingsOf0_8 m_t_paintingsOf1_9 m_t_ruledOut__10)
else
(jl_let (m_t_firstColumn_6 ||| (((1 : Int32)) <<< ((x4 * t_columns) &&& 31))) fun w19 =>
(jl_let (x4 + Int32.ofInt (1)) fun v20 =>
(k19 v20 m_t_all_5 w19 m_t_fitsAtFirst_7 m_t_paintingsOf0_8 m_t_paintingsOf1_9 m_t_ruledOut__10)))))
def lX3_settle_19 (F : Nat) (t_rows : Int32) (t_columns : Int32) (t_paints : Int32) (t_apart : Int32) (t_paintsOf0 : Int32) (t_paintsOf1 : Int32) (t_shut : Int32)  (F2 : Nat) (x4 : Int32) (m_t_all_5 : Int32) (m_t_firstColumn_6 : Int32) (m_t_fitsAtFirst_7 : Int32) (m_t_paintingsOf0_8 : Int32) (m_t_paintingsOf1_9 : Int32) (m_t_ruledOut__10 : Nat → Int32) : Option (Int32 × Int32 × Int32 × Int32 × Int32 × (Nat → Int32)) := jl_loop7 (bX3_settle_19 F t_rows t_columns t_paints t_apart t_paintsOf0 t_paintsOf1 t_shut ) F2 x4 m_t_all_5 m_t_firstColumn_6 m_t_fitsAtFirst_7 m_t_paintingsOf0_8 m_t_paintingsOf1_9 m_t_ruledOut__10
def fX3_settle (F : Nat) (t_rows : Int32) (t_columns : Int32) (t_paints : Int32) (t_apart : Int32) (t_paintsOf0 : Int32) (t_paintsOf1 : Int32) (t_shut : Int32) (t_all : Int32) (t_firstColumn : Int32) (t_fitsAtFirst : Int32) (t_paintingsOf0 : Int32) (t_paintingsOf1 : Int32) (t_ruledOut_ : Nat → Int32) : Option (Int32 × Int32 × Int32 × Int32 × Int32 × (Nat → Int32)) :=
((fX3_stones t_rows t_columns).bind fun r1 =>
(jl_let ((((1 : Int32)) <<< (r1 &&& 31)) - ((1 : Int32))) fun w3 =>
(lX3_settle_19 F t_rows t_columns t_paints t_apart t_paintsOf0 t_paintsOf1 t_shut F ((0 : Int32)) w3 ((0 : Int32)) t_fitsAtFirst t_paintingsOf0 t_paintingsOf1 t_ruledOut_)))
def oX3_settle (D : jv_D) (h_t : Nat) (h_t_ruledOut : Nat) (t_rows : Int32) (t_columns : Int32) (t_paints : Int32) (t_apart : Int32) (t_paintsOf0 : Int32) (t_paintsOf1 : Int32) (t_old : Int32) (t_shut : Int32) (r : Int32 × Int32 × Int32 × Int32 × Int32 × (Nat → Int32)) : va_W := [(h_t, .inr (2, [.int t_rows, .int t_columns, .int t_paints, .int t_apart, .int t_paintsOf0, .int t_paintsOf1, .int t_old, .int t_shut, .int r.1, .int r.2.1, .int r.2.2.1, .int r.2.2.2.1, .int r.2.2.2.2.1, .ref h_t_ruledOut])), (h_t_ruledOut, jI D 27 r.2.2.2.2.2)]
set_option maxHeartbeats 40000000 in
set_option maxRecDepth 100000 in
theorem mX3_settle (l : Launch) (D : jv_D) (F : Nat) (h_t : Nat) (h_t_ruledOut : Nat) (t_rows : Int32) (t_columns : Int32) (t_paints : Int32) (t_apart : Int32) (t_paintsOf0 : Int32) (t_paintsOf1 : Int32) (t_old : Int32) (t_shut : Int32) (t_all : Int32) (t_firstColumn : Int32) (t_fitsAtFirst : Int32) (t_paintingsOf0 : Int32) (t_paintingsOf1 : Int32) (t_ruledOut_ : Nat → Int32) (r : Int32 × Int32 × Int32 × Int32 × Int32 × (Nat → Int32)) (h : fX3_settle F t_rows t_columns t_paints t_apart t_paintsOf0 t_paintsOf1 t_shut t_all t_firstColumn t_fitsAtFirst t_paintingsOf0 t_paintingsOf1 t_ruledOut_ = some r) : MM l yX3_settle (jW yX3_settle cX3_settle 3 none) ({ frames := 3, cells := 0, slots := 0, locals := 67 }) D [.ref h_t] [(h_t, .inr (2, [.int t_rows, .int t_columns, .int t_paints, .int t_apart, .int t_paintsOf0, .int t_paintsOf1, .int t_old, .int t_shut, .int t_all, .int t_firstColumn, .int t_fitsAtFirst, .int t_paintingsOf0, .int t_paintingsOf1, .ref h_t_ruledOut])), (h_t_ruledOut, jI D 27 t_ruledOut_)] none (oX3_settle D h_t h_t_ruledOut t_rows t_columns t_paints t_apart t_paintsOf0 t_paintsOf1 t_old t_shut r) := by
  refine mn_of hpX3_settle (Nat.le_of_ble_eq_true rfl) ?_
  intro X hXl C E0 hN
  subst hXl
  replace C : JC D X 3 RX3 cX3_settle ({ frames := 3, cells := 0, slots := 0, locals := 67 }) := C
  have E : JE D X 0 0 none (fun _ : Unit => none) (fun _ : Unit => (oX3_settle D h_t h_t_ruledOut t_rows t_columns t_paints t_apart t_paintsOf0 t_paintsOf1 t_old t_shut r)) := E0 0 0 rfl rfl
  clear E0 hN
  show JJ D X 3 0 0 0 [(0, .ref h_t)] [] [(h_t, .inr (2, [.int t_rows, .int t_columns, .int t_paints, .int t_apart, .int t_paintsOf0, .int t_paintsOf1, .int t_old, .int t_shut, .int t_all, .int t_firstColumn, .int t_fitsAtFirst, .int t_paintingsOf0, .int t_paintingsOf1, .ref h_t_ruledOut])), (h_t_ruledOut, jI D 27 t_ruledOut_)]
  unfold fX3_settle at h
  have L108 : ∀ (x34 : Int32) (m_t_all_35 : Int32) (m_t_firstColumn_36 : Int32) (m_t_fitsAtFirst_37 : Int32) (m_t_paintingsOf0_38 : Int32) (m_t_paintingsOf1_39 : Int32) (m_t_ruledOut__40 : Nat → Int32), lX3_settle_108 F t_rows t_columns t_paints t_apart t_paintsOf0 t_paintsOf1 t_shut  F x34 m_t_all_35 m_t_firstColumn_36 m_t_fitsAtFirst_37 m_t_paintingsOf0_38 m_t_paintingsOf1_39 m_t_ruledOut__40 = some r → JJ D X 3 0 0 108 [(0, .ref h_t), (2, .int x34)] [] [(h_t, .inr (2, [.int t_rows, .int t_columns, .int t_paints, .int t_apart, .int t_paintsOf0, .int t_paintsOf1, .int t_old, .int t_shut, .int m_t_all_35, .int m_t_firstColumn_36, .int m_t_fitsAtFirst_37, .int m_t_paintingsOf0_38, .int m_t_paintingsOf1_39, .ref h_t_ruledOut])), (h_t_ruledOut, jI D 27 m_t_ruledOut__40)] := by
    intro x34 m_t_all_35 m_t_firstColumn_36 m_t_fitsAtFirst_37 m_t_paintingsOf0_38 m_t_paintingsOf1_39 m_t_ruledOut__40 h
    refine jl_ind7 (fun x34 m_t_all_35 m_t_firstColumn_36 m_t_fitsAtFirst_37 m_t_paintingsOf0_38 m_t_paintingsOf1_39 m_t_ruledOut__40 => JJ D X 3 0 0 108 [(0, .ref h_t), (2, .int x34)] [] [(h_t, .inr (2, [.int t_rows, .int t_columns, .int t_paints, .int t_apart, .int t_paintsOf0, .int t_paintsOf1, .int t_old, .int t_shut, .int m_t_all_35, .int m_t_firstColumn_36, .int m_t_fitsAtFirst_37, .int m_t_paintingsOf0_38, .int m_t_paintingsOf1_39, .ref h_t_ruledOut])), (h_t_ruledOut, jI D 27 m_t_ruledOut__40)]) ?_ F x34 m_t_all_35 m_t_firstColumn_36 m_t_fitsAtFirst_37 m_t_paintingsOf0_38 m_t_paintingsOf1_39 m_t_ruledOut__40 h
    clear h x34 m_t_all_35 m_t_firstColumn_36 m_t_fitsAtFirst_37 m_t_paintingsOf0_38 m_t_paintingsOf1_39 m_t_ruledOut__40
    intro k108 i108 x34 m_t_all_35 m_t_firstColumn_36 m_t_fitsAtFirst_37 m_t_paintingsOf0_38 m_t_paintingsOf1_39 m_t_ruledOut__40 h
    replace i108 : ∀ (x34 : Int32) (m_t_all_35 : Int32) (m_t_firstColumn_36 : Int32) (m_t_fitsAtFirst_37 : Int32) (m_t_paintingsOf0_38 : Int32) (m_t_paintingsOf1_39 : Int32) (m_t_ruledOut__40 : Nat → Int32), k108 x34 m_t_all_35 m_t_firstColumn_36 m_t_fitsAtFirst_37 m_t_paintingsOf0_38 m_t_paintingsOf1_39 m_t_ruledOut__40 = some r → JJ D X 3 0 0 108 [(0, .ref h_t), (2, .int x34)] [] [(h_t, .inr (2, [.int t_rows, .int t_columns, .int t_paints, .int t_apart, .int t_paintsOf0, .int t_paintsOf1, .int t_old, .int t_shut, .int m_t_all_35, .int m_t_firstColumn_36, .int m_t_fitsAtFirst_37, .int m_t_paintingsOf0_38, .int m_t_paintingsOf1_39, .ref h_t_ruledOut])), (h_t_ruledOut, jI D 27 m_t_ruledOut__40)] := i108
    show JJ D X 3 0 0 108 [(0, .ref h_t), (2, .int x34)] [] [(h_t, .inr (2, [.int t_rows, .int t_columns, .int t_paints, .int t_apart, .int t_paintsOf0, .int t_paintsOf1, .int t_old, .int t_shut, .int m_t_all_35, .int m_t_firstColumn_36, .int m_t_fitsAtFirst_37, .int m_t_paintingsOf0_38, .int m_t_paintingsOf1_39, .ref h_t_ruledOut])), (h_t_ruledOut, jI D 27 m_t_ruledOut__40)]
    unfold bX3_settle_108 at h
    refine j_iload_n C dX3_settle_108 rfl 1 rfl ?_
    refine j_aload_n C dX3_settle_109 rfl 0 rfl ?_
    refine j_get C ibX3 (ci := 2) 0 rfl rfl 13 (by decide) bfX3_9 (v := .ref h_t_ruledOut) rfl dX3_settle_110 ?_
    refine j_ilen C 1 rfl (v := (27 : Int32)) (by decide) dX3_settle_113 ?_
    refine j_icmp_ge C (tgt := 143) dX3_settle_114 (by decide) h (fun c41 h => ?_) (fun c41 h => ?_)
    · exact j_vretR C (r := r) (rtf := fun r => none) (wff := fun r => (oX3_settle D h_t h_t_ruledOut t_rows t_columns t_paints t_apart t_paintsOf0 t_paintsOf1 t_old t_shut r)) E h rfl rfl dX3_settle_143
    · refine j_aload_n C dX3_settle_117 rfl 0 rfl ?_
      refine j_get C ibX3 (ci := 2) 0 rfl rfl 13 (by decide) bfX3_9 (v := .ref h_t_ruledOut) rfl dX3_settle_118 ?_
      refine j_iload_n C dX3_settle_121 rfl 1 rfl ?_
      refine j_aload_n C dX3_settle_122 rfl 0 rfl ?_
      refine j_iload_n C dX3_settle_123 rfl 1 rfl ?_
      refine j_bipush C dX3_settle_124 (v := (9 : Int32)) (by decide) ?_
      refine j_irem C dX3_settle_126 (by decide) ?_
      refine j_iload_n C dX3_settle_127 rfl 1 rfl ?_
      refine j_bipush C dX3_settle_128 (v := (9 : Int32)) (by decide) ?_
      refine j_idiv C dX3_settle_130 (by decide) ?_
      refine j_iconst C dX3_settle_131 (v := (1 : Int32)) (by decide) ?_
      refine j_iadd C dX3_settle_132 ?_
      obtain ⟨r42, q43, h⟩ := jl_bind h
      refine j_cV1 C (mX3_ruledOutBy (jlaunch X) D F h_t h_t_ruledOut t_rows t_columns t_paints t_apart t_paintsOf0 t_paintsOf1 t_old t_shut m_t_all_35 m_t_firstColumn_36 m_t_fitsAtFirst_37 m_t_paintingsOf0_38 m_t_paintingsOf1_39 (x34 - x34 / ((9 : Int32)) * ((9 : Int32))) ((x34 / ((9 : Int32))) + ((1 : Int32))) r42 q43) bmX3_85 biX3_ruledOutBy bsX3_ruledOutBy bzX3 bcX3_ruledOutBy rfl hX3_ruledOutBy (rest := [.int x34, .ref h_t_ruledOut]) rfl (jroom_of rfl) 0 (ci := 2) rfl rfl rfl [0] [1] [1, 0] (wr := [(h_t_ruledOut, jI D 27 m_t_ruledOut__40)]) (ws2 := [(h_t, .inr (2, [.int t_rows, .int t_columns, .int t_paints, .int t_apart, .int t_paintsOf0, .int t_paintsOf1, .int t_old, .int t_shut, .int m_t_all_35, .int m_t_firstColumn_36, .int m_t_fitsAtFirst_37, .int m_t_paintingsOf0_38, .int m_t_paintingsOf1_39, .ref h_t_ruledOut])), (h_t_ruledOut, jI D 27 m_t_ruledOut__40)]) rfl rfl rfl rfl rfl (Nat.le_of_ble_eq_true rfl) dX3_settle_133 ?_
      refine jl_inb h (fun b44 h => ?_)
      refine j_iast C 1 rfl b44 dX3_settle_136 (ws' := fun g45 => [(h_t, .inr (2, [.int t_rows, .int t_columns, .int t_paints, .int t_apart, .int t_paintsOf0, .int t_paintsOf1, .int t_old, .int t_shut, .int m_t_all_35, .int m_t_firstColumn_36, .int m_t_fitsAtFirst_37, .int m_t_paintingsOf0_38, .int m_t_paintingsOf1_39, .ref h_t_ruledOut])), (h_t_ruledOut, jI D 27 g45)]) (fun _ => rfl) h (fun g45 h => ?_)
      refine j_iinc C dX3_settle_137 1 rfl (lv' := fun v46 => [(2, .int v46), (0, .ref h_t)]) (by decide) (fun _ => rfl) h (fun v46 h => ?_)
      refine j_goto C dX3_settle_140 (tgt := 108) (by decide) ?_
      refine j_sub (lv' := [(0, .ref h_t), (2, .int v46)]) [1, 0] rfl ?_
      exact i108 v46 m_t_all_35 m_t_firstColumn_36 m_t_fitsAtFirst_37 m_t_paintingsOf0_38 m_t_paintingsOf1_39 g45 h
  have L56 : ∀ (m_t_all_12 : Int32) (m_t_firstColumn_13 : Int32) (m_t_fitsAtFirst_14 : Int32) (m_t_paintingsOf0_15 : Int32) (m_t_paintingsOf1_16 : Int32) (m_t_ruledOut__17 : Nat → Int32), fX3_settle_56 F t_rows t_columns t_paints t_apart t_paintsOf0 t_paintsOf1 t_shut  m_t_all_12 m_t_firstColumn_13 m_t_fitsAtFirst_14 m_t_paintingsOf0_15 m_t_paintingsOf1_16 m_t_ruledOut__17 = some r → JJ D X 3 0 0 56 [(0, .ref h_t)] [] [(h_t, .inr (2, [.int t_rows, .int t_columns, .int t_paints, .int t_apart, .int t_paintsOf0, .int t_paintsOf1, .int t_old, .int t_shut, .int m_t_all_12, .int m_t_firstColumn_13, .int m_t_fitsAtFirst_14, .int m_t_paintingsOf0_15, .int m_t_paintingsOf1_16, .ref h_t_ruledOut])), (h_t_ruledOut, jI D 27 m_t_ruledOut__17)] := by
    intro m_t_all_12 m_t_firstColumn_13 m_t_fitsAtFirst_14 m_t_paintingsOf0_15 m_t_paintingsOf1_16 m_t_ruledOut__17 h
    unfold fX3_settle_56 at h
    refine j_aload_n C dX3_settle_56 rfl 0 rfl ?_
    refine j_get C ibX3 (ci := 2) 0 rfl rfl 8 (by decide) bfX3_69 (v := .int m_t_all_12) rfl dX3_settle_57 ?_
    refine j_aload_n C dX3_settle_60 rfl 0 rfl ?_
    refine j_get C ibX3 (ci := 2) 0 rfl rfl 7 (by decide) bfX3_43 (v := .int t_shut) rfl dX3_settle_61 ?_
    refine j_iconst C dX3_settle_64 (v := (-1 : Int32)) (by decide) ?_
    refine j_ixor C dX3_settle_65 ?_
    refine j_iand C dX3_settle_66 ?_
    refine j_istore_n C dX3_settle_67 rfl (lv' := fun v21 => [(1, .int v21), (0, .ref h_t)]) (by decide) (fun _ => rfl) h (fun v21 h => ?_)
    refine j_aload_n C dX3_settle_68 rfl 1 rfl ?_
    refine j_iload_n C dX3_settle_69 rfl 0 rfl ?_
    refine j_aload_n C dX3_settle_70 rfl 1 rfl ?_
    obtain ⟨r22, q23, h⟩ := jl_bind h
    refine j_cV1 C (mX3_allPaints (jlaunch X) D h_t h_t_ruledOut t_rows t_columns t_paints t_apart t_paintsOf0 t_paintsOf1 t_old t_shut m_t_all_12 m_t_firstColumn_13 m_t_fitsAtFirst_14 m_t_paintingsOf0_15 m_t_paintingsOf1_16 r22 q23) bmX3_50 biX3_allPaints bsX3_allPaints bzX3 bcX3_allPaints rfl hX3_allPaints (rest := [.int v21, .ref h_t]) rfl (jroom_of rfl) 0 (ci := 2) rfl rfl rfl [0] [1] [1, 0] (wr := [(h_t_ruledOut, jI D 27 m_t_ruledOut__17)]) (ws2 := [(h_t, .inr (2, [.int t_rows, .int t_columns, .int t_paints, .int t_apart, .int t_paintsOf0, .int t_paintsOf1, .int t_old, .int t_shut, .int m_t_all_12, .int m_t_firstColumn_13, .int m_t_fitsAtFirst_14, .int m_t_paintingsOf0_15, .int m_t_paintingsOf1_16, .ref h_t_ruledOut])), (h_t_ruledOut, jI D 27 m_t_ruledOut__17)]) rfl rfl rfl rfl rfl (Nat.le_of_ble_eq_true rfl) dX3_settle_71 ?_
    obtain ⟨r24, q25, h⟩ := jl_bind h
    refine j_cS1 C (mX3_inPaints (jlaunch X) D F v21 r22 r24 q25) bmX3_75 btX3_inPaints bzX3 bcX3_inPaints hX3_inPaints (rest := [.ref h_t]) rfl (jroom_of rfl) [] [0, 1] [0, 1] (wr := [(h_t, .inr (2, [.int t_rows, .int t_columns, .int t_paints, .int t_apart, .int t_paintsOf0, .int t_paintsOf1, .int t_old, .int t_shut, .int m_t_all_12, .int m_t_firstColumn_13, .int m_t_fitsAtFirst_14, .int m_t_paintingsOf0_15, .int m_t_paintingsOf1_16, .ref h_t_ruledOut])), (h_t_ruledOut, jI D 27 m_t_ruledOut__17)]) (ws2 := [(h_t, .inr (2, [.int t_rows, .int t_columns, .int t_paints, .int t_apart, .int t_paintsOf0, .int t_paintsOf1, .int t_old, .int t_shut, .int m_t_all_12, .int m_t_firstColumn_13, .int m_t_fitsAtFirst_14, .int m_t_paintingsOf0_15, .int m_t_paintingsOf1_16, .ref h_t_ruledOut])), (h_t_ruledOut, jI D 27 m_t_ruledOut__17)]) rfl rfl rfl rfl rfl (Nat.le_of_ble_eq_true rfl) dX3_settle_74 ?_
    refine j_put C ibX3 tyX3 tyX3_ok nmX3 (ci := 2) 0 rfl rfl 10 (by decide) bfX3_78 rfl rfl rfl (Nat.le_of_ble_eq_true rfl) dX3_settle_77 (ws' := [(h_t, .inr (2, [.int t_rows, .int t_columns, .int t_paints, .int t_apart, .int t_paintsOf0, .int t_paintsOf1, .int t_old, .int t_shut, .int m_t_all_12, .int m_t_firstColumn_13, .int r24, .int m_t_paintingsOf0_15, .int m_t_paintingsOf1_16, .ref h_t_ruledOut])), (h_t_ruledOut, jI D 27 m_t_ruledOut__17)]) rfl ?_
    refine j_aload_n C dX3_settle_80 rfl 1 rfl ?_
    refine j_iload_n C dX3_settle_81 rfl 0 rfl ?_
    refine j_aload_n C dX3_settle_82 rfl 1 rfl ?_
    refine j_iconst C dX3_settle_83 (v := (0 : Int32)) (by decide) ?_
    obtain ⟨r26, q27, h⟩ := jl_bind h
    refine j_cV1 C (mX3_paintsOf (jlaunch X) D h_t h_t_ruledOut t_rows t_columns t_paints t_apart t_paintsOf0 t_paintsOf1 t_old t_shut m_t_all_12 m_t_firstColumn_13 r24 m_t_paintingsOf0_15 m_t_paintingsOf1_16 ((0 : Int32)) r26 q27) bmX3_81 biX3_paintsOf bsX3_paintsOf bzX3 bcX3_paintsOf rfl hX3_paintsOf (rest := [.int v21, .ref h_t]) rfl (jroom_of rfl) 0 (ci := 2) rfl rfl rfl [0] [1] [1, 0] (wr := [(h_t_ruledOut, jI D 27 m_t_ruledOut__17)]) (ws2 := [(h_t, .inr (2, [.int t_rows, .int t_columns, .int t_paints, .int t_apart, .int t_paintsOf0, .int t_paintsOf1, .int t_old, .int t_shut, .int m_t_all_12, .int m_t_firstColumn_13, .int r24, .int m_t_paintingsOf0_15, .int m_t_paintingsOf1_16, .ref h_t_ruledOut])), (h_t_ruledOut, jI D 27 m_t_ruledOut__17)]) rfl rfl rfl rfl rfl (Nat.le_of_ble_eq_true rfl) dX3_settle_84 ?_
    obtain ⟨r28, q29, h⟩ := jl_bind h
    refine j_cS1 C (mX3_inPaints (jlaunch X) D F v21 r26 r28 q29) bmX3_75 btX3_inPaints bzX3 bcX3_inPaints hX3_inPaints (rest := [.ref h_t]) rfl (jroom_of rfl) [] [0, 1] [0, 1] (wr := [(h_t, .inr (2, [.int t_rows, .int t_columns, .int t_paints, .int t_apart, .int t_paintsOf0, .int t_paintsOf1, .int t_old, .int t_shut, .int m_t_all_12, .int m_t_firstColumn_13, .int r24, .int m_t_paintingsOf0_15, .int m_t_paintingsOf1_16, .ref h_t_ruledOut])), (h_t_ruledOut, jI D 27 m_t_ruledOut__17)]) (ws2 := [(h_t, .inr (2, [.int t_rows, .int t_columns, .int t_paints, .int t_apart, .int t_paintsOf0, .int t_paintsOf1, .int t_old, .int t_shut, .int m_t_all_12, .int m_t_firstColumn_13, .int r24, .int m_t_paintingsOf0_15, .int m_t_paintingsOf1_16, .ref h_t_ruledOut])), (h_t_ruledOut, jI D 27 m_t_ruledOut__17)]) rfl rfl rfl rfl rfl (Nat.le_of_ble_eq_true rfl) dX3_settle_87 ?_
    refine j_put C ibX3 tyX3 tyX3_ok nmX3 (ci := 2) 0 rfl rfl 11 (by decide) bfX3_53 rfl rfl rfl (Nat.le_of_ble_eq_true rfl) dX3_settle_90 (ws' := [(h_t, .inr (2, [.int t_rows, .int t_columns, .int t_paints, .int t_apart, .int t_paintsOf0, .int t_paintsOf1, .int t_old, .int t_shut, .int m_t_all_12, .int m_t_firstColumn_13, .int r24, .int r28, .int m_t_paintingsOf1_16, .ref h_t_ruledOut])), (h_t_ruledOut, jI D 27 m_t_ruledOut__17)]) rfl ?_
    refine j_aload_n C dX3_settle_93 rfl 1 rfl ?_
    refine j_iload_n C dX3_settle_94 rfl 0 rfl ?_
    refine j_aload_n C dX3_settle_95 rfl 1 rfl ?_
    refine j_iconst C dX3_settle_96 (v := (1 : Int32)) (by decide) ?_
    obtain ⟨r30, q31, h⟩ := jl_bind h
    refine j_cV1 C (mX3_paintsOf (jlaunch X) D h_t h_t_ruledOut t_rows t_columns t_paints t_apart t_paintsOf0 t_paintsOf1 t_old t_shut m_t_all_12 m_t_firstColumn_13 r24 r28 m_t_paintingsOf1_16 ((1 : Int32)) r30 q31) bmX3_81 biX3_paintsOf bsX3_paintsOf bzX3 bcX3_paintsOf rfl hX3_paintsOf (rest := [.int v21, .ref h_t]) rfl (jroom_of rfl) 0 (ci := 2) rfl rfl rfl [0] [1] [1, 0] (wr := [(h_t_ruledOut, jI D 27 m_t_ruledOut__17)]) (ws2 := [(h_t, .inr (2, [.int t_rows, .int t_columns, .int t_paints, .int t_apart, .int t_paintsOf0, .int t_paintsOf1, .int t_old, .int t_shut, .int m_t_all_12, .int m_t_firstColumn_13, .int r24, .int r28, .int m_t_paintingsOf1_16, .ref h_t_ruledOut])), (h_t_ruledOut, jI D 27 m_t_ruledOut__17)]) rfl rfl rfl rfl rfl (Nat.le_of_ble_eq_true rfl) dX3_settle_97 ?_
    obtain ⟨r32, q33, h⟩ := jl_bind h
    refine j_cS1 C (mX3_inPaints (jlaunch X) D F v21 r30 r32 q33) bmX3_75 btX3_inPaints bzX3 bcX3_inPaints hX3_inPaints (rest := [.ref h_t]) rfl (jroom_of rfl) [] [0, 1] [0, 1] (wr := [(h_t, .inr (2, [.int t_rows, .int t_columns, .int t_paints, .int t_apart, .int t_paintsOf0, .int t_paintsOf1, .int t_old, .int t_shut, .int m_t_all_12, .int m_t_firstColumn_13, .int r24, .int r28, .int m_t_paintingsOf1_16, .ref h_t_ruledOut])), (h_t_ruledOut, jI D 27 m_t_ruledOut__17)]) (ws2 := [(h_t, .inr (2, [.int t_rows, .int t_columns, .int t_paints, .int t_apart, .int t_paintsOf0, .int t_paintsOf1, .int t_old, .int t_shut, .int m_t_all_12, .int m_t_firstColumn_13, .int r24, .int r28, .int m_t_paintingsOf1_16, .ref h_t_ruledOut])), (h_t_ruledOut, jI D 27 m_t_ruledOut__17)]) rfl rfl rfl rfl rfl (Nat.le_of_ble_eq_true rfl) dX3_settle_100 ?_
    refine j_put C ibX3 tyX3 tyX3_ok nmX3 (ci := 2) 0 rfl rfl 12 (by decide) bfX3_56 rfl rfl rfl (Nat.le_of_ble_eq_true rfl) dX3_settle_103 (ws' := [(h_t, .inr (2, [.int t_rows, .int t_columns, .int t_paints, .int t_apart, .int t_paintsOf0, .int t_paintsOf1, .int t_old, .int t_shut, .int m_t_all_12, .int m_t_firstColumn_13, .int r24, .int r28, .int r32, .ref h_t_ruledOut])), (h_t_ruledOut, jI D 27 m_t_ruledOut__17)]) rfl ?_
    refine j_iconst C dX3_settle_106 (v := (0 : Int32)) (by decide) ?_
    refine j_istore_nC C dX3_settle_107 rfl (lv' := [(2, .int ((0 : Int32))), (1, .int v21), (0, .ref h_t)]) (by decide) rfl ?_
    refine j_sub (lv' := [(0, .ref h_t), (2, .int ((0 : Int32)))]) [2, 0] rfl ?_
    exact L108 ((0 : Int32)) m_t_all_12 m_t_firstColumn_13 r24 r28 r32 m_t_ruledOut__17 h
  have L19 : ∀ (x4 : Int32) (m_t_all_5 : Int32) (m_t_firstColumn_6 : Int32) (m_t_fitsAtFirst_7 : Int32) (m_t_paintingsOf0_8 : Int32) (m_t_paintingsOf1_9 : Int32) (m_t_ruledOut__10 : Nat → Int32), lX3_settle_19 F t_rows t_columns t_paints t_apart t_paintsOf0 t_paintsOf1 t_shut  F x4 m_t_all_5 m_t_firstColumn_6 m_t_fitsAtFirst_7 m_t_paintingsOf0_8 m_t_paintingsOf1_9 m_t_ruledOut__10 = some r → JJ D X 3 0 0 19 [(0, .ref h_t), (1, .int x4)] [] [(h_t, .inr (2, [.int t_rows, .int t_columns, .int t_paints, .int t_apart, .int t_paintsOf0, .int t_paintsOf1, .int t_old, .int t_shut, .int m_t_all_5, .int m_t_firstColumn_6, .int m_t_fitsAtFirst_7, .int m_t_paintingsOf0_8, .int m_t_paintingsOf1_9, .ref h_t_ruledOut])), (h_t_ruledOut, jI D 27 m_t_ruledOut__10)] := by
    intro x4 m_t_all_5 m_t_firstColumn_6 m_t_fitsAtFirst_7 m_t_paintingsOf0_8 m_t_paintingsOf1_9 m_t_ruledOut__10 h
    refine jl_ind7 (fun x4 m_t_all_5 m_t_firstColumn_6 m_t_fitsAtFirst_7 m_t_paintingsOf0_8 m_t_paintingsOf1_9 m_t_ruledOut__10 => JJ D X 3 0 0 19 [(0, .ref h_t), (1, .int x4)] [] [(h_t, .inr (2, [.int t_rows, .int t_columns, .int t_paints, .int t_apart, .int t_paintsOf0, .int t_paintsOf1, .int t_old, .int t_shut, .int m_t_all_5, .int m_t_firstColumn_6, .int m_t_fitsAtFirst_7, .int m_t_paintingsOf0_8, .int m_t_paintingsOf1_9, .ref h_t_ruledOut])), (h_t_ruledOut, jI D 27 m_t_ruledOut__10)]) ?_ F x4 m_t_all_5 m_t_firstColumn_6 m_t_fitsAtFirst_7 m_t_paintingsOf0_8 m_t_paintingsOf1_9 m_t_ruledOut__10 h
    clear h x4 m_t_all_5 m_t_firstColumn_6 m_t_fitsAtFirst_7 m_t_paintingsOf0_8 m_t_paintingsOf1_9 m_t_ruledOut__10
    intro k19 i19 x4 m_t_all_5 m_t_firstColumn_6 m_t_fitsAtFirst_7 m_t_paintingsOf0_8 m_t_paintingsOf1_9 m_t_ruledOut__10 h
    replace i19 : ∀ (x4 : Int32) (m_t_all_5 : Int32) (m_t_firstColumn_6 : Int32) (m_t_fitsAtFirst_7 : Int32) (m_t_paintingsOf0_8 : Int32) (m_t_paintingsOf1_9 : Int32) (m_t_ruledOut__10 : Nat → Int32), k19 x4 m_t_all_5 m_t_firstColumn_6 m_t_fitsAtFirst_7 m_t_paintingsOf0_8 m_t_paintingsOf1_9 m_t_ruledOut__10 = some r → JJ D X 3 0 0 19 [(0, .ref h_t), (1, .int x4)] [] [(h_t, .inr (2, [.int t_rows, .int t_columns, .int t_paints, .int t_apart, .int t_paintsOf0, .int t_paintsOf1, .int t_old, .int t_shut, .int m_t_all_5, .int m_t_firstColumn_6, .int m_t_fitsAtFirst_7, .int m_t_paintingsOf0_8, .int m_t_paintingsOf1_9, .ref h_t_ruledOut])), (h_t_ruledOut, jI D 27 m_t_ruledOut__10)] := i19
    show JJ D X 3 0 0 19 [(0, .ref h_t), (1, .int x4)] [] [(h_t, .inr (2, [.int t_rows, .int t_columns, .int t_paints, .int t_apart, .int t_paintsOf0, .int t_paintsOf1, .int t_old, .int t_shut, .int m_t_all_5, .int m_t_firstColumn_6, .int m_t_fitsAtFirst_7, .int m_t_paintingsOf0_8, .int m_t_paintingsOf1_9, .ref h_t_ruledOut])), (h_t_ruledOut, jI D 27 m_t_ruledOut__10)]
    unfold bX3_settle_19 at h
    refine j_iload_n C dX3_settle_19 rfl 1 rfl ?_
    refine j_bipush C dX3_settle_20 (v := (9 : Int32)) (by decide) ?_
    refine j_icmp_ge C (tgt := 56) dX3_settle_22 (by decide) h (fun c11 h => ?_) (fun c11 h => ?_)
    · refine j_sub (lv' := [(0, .ref h_t)]) [0] rfl ?_
      exact L56 m_t_all_5 m_t_firstColumn_6 m_t_fitsAtFirst_7 m_t_paintingsOf0_8 m_t_paintingsOf1_9 m_t_ruledOut__10 h
    · refine j_iload_n C dX3_settle_25 rfl 1 rfl ?_
      refine j_aload_n C dX3_settle_26 rfl 0 rfl ?_
      refine j_get C ibX3 (ci := 2) 0 rfl rfl 0 (by decide) bfX3_21 (v := .int t_rows) rfl dX3_settle_27 ?_
      refine j_icmp_ge C (tgt := 56) dX3_settle_30 (by decide) h (fun c18 h => ?_) (fun c18 h => ?_)
      · refine j_sub (lv' := [(0, .ref h_t)]) [0] rfl ?_
        exact L56 m_t_all_5 m_t_firstColumn_6 m_t_fitsAtFirst_7 m_t_paintingsOf0_8 m_t_paintingsOf1_9 m_t_ruledOut__10 h
      · refine j_aload_n C dX3_settle_33 rfl 0 rfl ?_
        refine j_dup C dX3_settle_34 rfl ?_
        refine j_get C ibX3 (ci := 2) 0 rfl rfl 9 (by decide) bfX3_72 (v := .int m_t_firstColumn_6) rfl dX3_settle_35 ?_
        refine j_iconst C dX3_settle_38 (v := (1 : Int32)) (by decide) ?_
        refine j_iload_n C dX3_settle_39 rfl 1 rfl ?_
        refine j_aload_n C dX3_settle_40 rfl 0 rfl ?_
        refine j_get C ibX3 (ci := 2) 0 rfl rfl 1 (by decide) bfX3_25 (v := .int t_columns) rfl dX3_settle_41 ?_
        refine j_imul C dX3_settle_44 ?_
        refine j_ishl C dX3_settle_45 ?_
        refine j_ior C dX3_settle_46 ?_
        refine j_nmi h (fun w19 h => ?_)
        refine j_put C ibX3 tyX3 tyX3_ok nmX3 (ci := 2) 0 rfl rfl 9 (by decide) bfX3_72 rfl rfl rfl (Nat.le_of_ble_eq_true rfl) dX3_settle_47 (ws' := [(h_t, .inr (2, [.int t_rows, .int t_columns, .int t_paints, .int t_apart, .int t_paintsOf0, .int t_paintsOf1, .int t_old, .int t_shut, .int m_t_all_5, .int w19, .int m_t_fitsAtFirst_7, .int m_t_paintingsOf0_8, .int m_t_paintingsOf1_9, .ref h_t_ruledOut])), (h_t_ruledOut, jI D 27 m_t_ruledOut__10)]) rfl ?_
        refine j_iinc C dX3_settle_50 1 rfl (lv' := fun v20 => [(1, .int v20), (0, .ref h_t)]) (by decide) (fun _ => rfl) h (fun v20 h => ?_)
        refine j_goto C dX3_settle_53 (tgt := 19) (by decide) ?_
        refine j_sub (lv' := [(0, .ref h_t), (1, .int v20)]) [1, 0] rfl ?_
        exact i19 v20 m_t_all_5 w19 m_t_fitsAtFirst_7 m_t_paintingsOf0_8 m_t_paintingsOf1_9 m_t_ruledOut__10 h
  refine j_aload_n C dX3_settle_0 rfl 0 rfl ?_
  refine j_iconst C dX3_settle_1 (v := (1 : Int32)) (by decide) ?_
  refine j_aload_n C dX3_settle_2 rfl 0 rfl ?_
  obtain ⟨r1, q2, h⟩ := jl_bind h
  refine j_cV1 C (mX3_stones (jlaunch X) D h_t h_t_ruledOut t_rows t_columns t_paints t_apart t_paintsOf0 t_paintsOf1 t_old t_shut t_all t_firstColumn t_fitsAtFirst t_paintingsOf0 t_paintingsOf1 r1 q2) bmX3_46 biX3_stones bsX3_stones bzX3 bcX3_stones rfl hX3_stones (rest := [.int ((1 : Int32)), .ref h_t]) rfl (jroom_of rfl) 0 (ci := 2) rfl rfl rfl [0] [1] [1, 0] (wr := [(h_t_ruledOut, jI D 27 t_ruledOut_)]) (ws2 := [(h_t, .inr (2, [.int t_rows, .int t_columns, .int t_paints, .int t_apart, .int t_paintsOf0, .int t_paintsOf1, .int t_old, .int t_shut, .int t_all, .int t_firstColumn, .int t_fitsAtFirst, .int t_paintingsOf0, .int t_paintingsOf1, .ref h_t_ruledOut])), (h_t_ruledOut, jI D 27 t_ruledOut_)]) rfl rfl rfl rfl rfl (Nat.le_of_ble_eq_true rfl) dX3_settle_3 ?_
  refine j_ishl C dX3_settle_6 ?_
  refine j_iconst C dX3_settle_7 (v := (1 : Int32)) (by decide) ?_
  refine j_isub C dX3_settle_8 ?_
  refine j_nmi h (fun w3 h => ?_)
  refine j_put C ibX3 tyX3 tyX3_ok nmX3 (ci := 2) 0 rfl rfl 8 (by decide) bfX3_69 rfl rfl rfl (Nat.le_of_ble_eq_true rfl) dX3_settle_9 (ws' := [(h_t, .inr (2, [.int t_rows, .int t_columns, .int t_paints, .int t_apart, .int t_paintsOf0, .int t_paintsOf1, .int t_old, .int t_shut, .int w3, .int t_firstColumn, .int t_fitsAtFirst, .int t_paintingsOf0, .int t_paintingsOf1, .ref h_t_ruledOut])), (h_t_ruledOut, jI D 27 t_ruledOut_)]) rfl ?_
  refine j_aload_n C dX3_settle_12 rfl 0 rfl ?_
  refine j_iconst C dX3_settle_13 (v := (0 : Int32)) (by decide) ?_
  refine j_put C ibX3 tyX3 tyX3_ok nmX3 (ci := 2) 0 rfl rfl 9 (by decide) bfX3_72 rfl rfl rfl (Nat.le_of_ble_eq_true rfl) dX3_settle_14 (ws' := [(h_t, .inr (2, [.int t_rows, .int t_columns, .int t_paints, .int t_apart, .int t_paintsOf0, .int t_paintsOf1, .int t_old, .int t_shut, .int w3, .int ((0 : Int32)), .int t_fitsAtFirst, .int t_paintingsOf0, .int t_paintingsOf1, .ref h_t_ruledOut])), (h_t_ruledOut, jI D 27 t_ruledOut_)]) rfl ?_
  refine j_iconst C dX3_settle_17 (v := (0 : Int32)) (by decide) ?_
  refine j_istore_nC C dX3_settle_18 rfl (lv' := [(1, .int ((0 : Int32))), (0, .ref h_t)]) (by decide) rfl ?_
  refine j_sub (lv' := [(0, .ref h_t), (1, .int ((0 : Int32)))]) [1, 0] rfl ?_
  exact L19 ((0 : Int32)) w3 ((0 : Int32)) t_fitsAtFirst t_paintingsOf0 t_paintingsOf1 t_ruledOut_ h
theorem dX3_init_0 : decode cX3_init 0 = .ok (.aload_n 0, 1) := by decide +kernel
theorem dX3_init_1 : decode cX3_init 1 = .ok (.invokespecial 3, 3) := by decide +kernel
theorem dX3_init_4 : decode cX3_init 4 = .ok (.aload_n 0, 1) := by decide +kernel
theorem dX3_init_5 : decode cX3_init 5 = .ok (.bipush 27, 2) := by decide +kernel
theorem dX3_init_7 : decode cX3_init 7 = .ok (.newarray .int, 2) := by decide +kernel
theorem dX3_init_9 : decode cX3_init 9 = .ok (.putfield 9, 3) := by decide +kernel
theorem dX3_init_12 : decode cX3_init 12 = .ok (.aload_n 0, 1) := by decide +kernel
theorem dX3_init_13 : decode cX3_init 13 = .ok (.invokevirtual 15, 3) := by decide +kernel
theorem dX3_init_16 : decode cX3_init 16 = .ok (.aload_n 0, 1) := by decide +kernel
theorem dX3_init_17 : decode cX3_init 17 = .ok (.invokevirtual 18, 3) := by decide +kernel
theorem dX3_init_20 : decode cX3_init 20 = .ok (.return_, 1) := by decide +kernel
def fX3_init (F : Nat) : Option (Int32 × Int32 × Int32 × Int32 × Int32 × Int32 × Int32 × Int32 × Int32 × Int32 × Int32 × Int32 × Int32 × (Nat → Int32)) :=
((fX3_clear ((0 : Int32)) ((0 : Int32)) ((0 : Int32)) ((0 : Int32)) ((0 : Int32)) ((0 : Int32)) ((0 : Int32)) ((0 : Int32))).bind fun r2 =>
((fX3_settle F r2.1 r2.2.1 r2.2.2.1 r2.2.2.2.1 r2.2.2.2.2.1 r2.2.2.2.2.2.1 r2.2.2.2.2.2.2.2 ((0 : Int32)) ((0 : Int32)) ((0 : Int32)) ((0 : Int32)) ((0 : Int32)) ((fun _ => (0 : Int32)))).bind fun r4 =>
(some (r2.1, r2.2.1, r2.2.2.1, r2.2.2.2.1, r2.2.2.2.2.1, r2.2.2.2.2.2.1, r2.2.2.2.2.2.2.1, r2.2.2.2.2.2.2.2, r4.1, r4.2.1, r4.2.2.1, r4.2.2.2.1, r4.2.2.2.2.1, r4.2.2.2.2.2))))
set_option maxHeartbeats 40000000 in
set_option maxRecDepth 100000 in
theorem mX3_init (l : Launch) (D : jv_D) (F : Nat) (h_t : Nat) (r : Int32 × Int32 × Int32 × Int32 × Int32 × Int32 × Int32 × Int32 × Int32 × Int32 × Int32 × Int32 × Int32 × (Nat → Int32)) (h : fX3_init F = some r) : MN l yX3_init (jW yX3_init cX3_init 1 none) ({ frames := 4, cells := 1, slots := 27, locals := 89 }) D [.ref h_t] [(h_t, .inr (2, [.int ((0 : Int32)), .int ((0 : Int32)), .int ((0 : Int32)), .int ((0 : Int32)), .int ((0 : Int32)), .int ((0 : Int32)), .int ((0 : Int32)), .int ((0 : Int32)), .int ((0 : Int32)), .int ((0 : Int32)), .int ((0 : Int32)), .int ((0 : Int32)), .int ((0 : Int32)), .null]))] 1 27 (fun _ : Nat => none) (fun u : Nat => [(h_t, .inr (2, [.int r.1, .int r.2.1, .int r.2.2.1, .int r.2.2.2.1, .int r.2.2.2.2.1, .int r.2.2.2.2.2.1, .int r.2.2.2.2.2.2.1, .int r.2.2.2.2.2.2.2.1, .int r.2.2.2.2.2.2.2.2.1, .int r.2.2.2.2.2.2.2.2.2.1, .int r.2.2.2.2.2.2.2.2.2.2.1, .int r.2.2.2.2.2.2.2.2.2.2.2.1, .int r.2.2.2.2.2.2.2.2.2.2.2.2.1, .ref u])), (u, jI D 27 r.2.2.2.2.2.2.2.2.2.2.2.2.2)]) := by
  refine mn_of hpX3_init (Nat.le_of_ble_eq_true rfl) ?_
  intro X hXl C E hN
  subst hXl
  replace C : JC D X 1 RX3 cX3_init ({ frames := 4, cells := 1, slots := 27, locals := 89 }) := C
  show JJ D X 1 0 0 0 [(0, .ref h_t)] [] [(h_t, .inr (2, [.int ((0 : Int32)), .int ((0 : Int32)), .int ((0 : Int32)), .int ((0 : Int32)), .int ((0 : Int32)), .int ((0 : Int32)), .int ((0 : Int32)), .int ((0 : Int32)), .int ((0 : Int32)), .int ((0 : Int32)), .int ((0 : Int32)), .int ((0 : Int32)), .int ((0 : Int32)), .null]))]
  unfold fX3_init at h
  refine j_aload_n C dX3_init_0 rfl 0 rfl ?_
  refine j_objInit C bmX3_3 boi boc dX3_init_1 ⟨Nat.le_of_ble_eq_true rfl, Nat.le_of_ble_eq_true rfl⟩ ?_
  refine j_aload_n C dX3_init_4 rfl 0 rfl ?_
  refine j_bipush C dX3_init_5 (v := (27 : Int32)) (by decide) ?_
  refine j_newa C (atype := .int) 0 (ty := .int) rfl (fun _ _ h => h) baa_int rfl (N := 27) (a0 := (27, .inl (fun _ => (0 : Int32)))) (fun _ => rfl) (by decide) (by decide +kernel) (Nat.le_of_ble_eq_true rfl) ⟨Nat.le_of_ble_eq_true rfl, Nat.le_of_ble_eq_true rfl⟩ dX3_init_7 (fun h1 => ?_)
  show JJ D X 1 (0 + 1) (0 + 27) 9 [(0, .ref h_t)] [.ref h1, .ref h_t] [(h_t, .inr (2, [.int ((0 : Int32)), .int ((0 : Int32)), .int ((0 : Int32)), .int ((0 : Int32)), .int ((0 : Int32)), .int ((0 : Int32)), .int ((0 : Int32)), .int ((0 : Int32)), .int ((0 : Int32)), .int ((0 : Int32)), .int ((0 : Int32)), .int ((0 : Int32)), .int ((0 : Int32)), .null])), (h1, jI D 27 ((fun _ => (0 : Int32))))]
  refine j_putF C ibX3 tyX3 tyX3_ok nmX3 (hN rfl) (ci := 2) 0 rfl rfl 13 (by decide) bfX3_9 rfl rfl rfl rfl (Nat.le_of_ble_eq_true rfl) dX3_init_9 (ws' := [(h_t, .inr (2, [.int ((0 : Int32)), .int ((0 : Int32)), .int ((0 : Int32)), .int ((0 : Int32)), .int ((0 : Int32)), .int ((0 : Int32)), .int ((0 : Int32)), .int ((0 : Int32)), .int ((0 : Int32)), .int ((0 : Int32)), .int ((0 : Int32)), .int ((0 : Int32)), .int ((0 : Int32)), .ref h1])), (h1, jI D 27 ((fun _ => (0 : Int32))))]) rfl ?_
  refine j_aload_n C dX3_init_12 rfl 0 rfl ?_
  obtain ⟨r2, q3, h⟩ := jl_bind h
  refine j_cV0 C (mX3_clear (jlaunch X) D h_t h1 ((0 : Int32)) ((0 : Int32)) ((0 : Int32)) ((0 : Int32)) ((0 : Int32)) ((0 : Int32)) ((0 : Int32)) ((0 : Int32)) ((0 : Int32)) ((0 : Int32)) ((0 : Int32)) ((0 : Int32)) ((0 : Int32)) r2 q3) bmX3_15 biX3_clear bsX3_clear bzX3 bcX3_clear rfl hX3_clear (rest := []) rfl (jroom_of rfl) 0 (ci := 2) rfl rfl rfl [0] [1] [1, 0] (wr := [(h1, jI D 27 ((fun _ => (0 : Int32))))]) (ws2 := [(h_t, .inr (2, [.int r2.1, .int r2.2.1, .int r2.2.2.1, .int r2.2.2.2.1, .int r2.2.2.2.2.1, .int r2.2.2.2.2.2.1, .int r2.2.2.2.2.2.2.1, .int r2.2.2.2.2.2.2.2, .int ((0 : Int32)), .int ((0 : Int32)), .int ((0 : Int32)), .int ((0 : Int32)), .int ((0 : Int32)), .ref h1])), (h1, jI D 27 ((fun _ => (0 : Int32))))]) rfl rfl rfl rfl rfl (Nat.le_of_ble_eq_true rfl) dX3_init_13 ?_
  refine j_aload_n C dX3_init_16 rfl 0 rfl ?_
  obtain ⟨r4, q5, h⟩ := jl_bind h
  refine j_cV0 C (mX3_settle (jlaunch X) D F h_t h1 r2.1 r2.2.1 r2.2.2.1 r2.2.2.2.1 r2.2.2.2.2.1 r2.2.2.2.2.2.1 r2.2.2.2.2.2.2.1 r2.2.2.2.2.2.2.2 ((0 : Int32)) ((0 : Int32)) ((0 : Int32)) ((0 : Int32)) ((0 : Int32)) ((fun _ => (0 : Int32))) r4 q5) bmX3_18 biX3_settle bsX3_settle bzX3 bcX3_settle rfl hX3_settle (rest := []) rfl (jroom_of rfl) 0 (ci := 2) rfl rfl rfl [0, 1] [] [0, 1] (wr := []) (ws2 := [(h_t, .inr (2, [.int r2.1, .int r2.2.1, .int r2.2.2.1, .int r2.2.2.2.1, .int r2.2.2.2.2.1, .int r2.2.2.2.2.2.1, .int r2.2.2.2.2.2.2.1, .int r2.2.2.2.2.2.2.2, .int r4.1, .int r4.2.1, .int r4.2.2.1, .int r4.2.2.2.1, .int r4.2.2.2.2.1, .ref h1])), (h1, jI D 27 r4.2.2.2.2.2)]) rfl rfl rfl rfl rfl (Nat.le_of_ble_eq_true rfl) dX3_init_17 ?_
  obtain rfl := jl_some h
  exact j_vret C (E _ _ rfl rfl) (h1) rfl rfl dX3_init_20
theorem dX3_hasStone_0 : decode cX3_hasStone 0 = .ok (.iload_n 1, 1) := by decide +kernel
theorem dX3_hasStone_1 : decode cX3_hasStone 1 = .ok (.ifCond .lt 15, 3) := by decide +kernel
theorem dX3_hasStone_4 : decode cX3_hasStone 4 = .ok (.iload_n 1, 1) := by decide +kernel
theorem dX3_hasStone_5 : decode cX3_hasStone 5 = .ok (.aload_n 0, 1) := by decide +kernel
theorem dX3_hasStone_6 : decode cX3_hasStone 6 = .ok (.invokevirtual 46, 3) := by decide +kernel
theorem dX3_hasStone_9 : decode cX3_hasStone 9 = .ok (.if_icmp .ge 7, 3) := by decide +kernel
theorem dX3_hasStone_12 : decode cX3_hasStone 12 = .ok (.iconst 1, 1) := by decide +kernel
theorem dX3_hasStone_13 : decode cX3_hasStone 13 = .ok (.goto 4, 3) := by decide +kernel
theorem dX3_hasStone_16 : decode cX3_hasStone 16 = .ok (.iconst 0, 1) := by decide +kernel
theorem dX3_hasStone_17 : decode cX3_hasStone 17 = .ok (.ireturn, 1) := by decide +kernel
def fX3_hasStone (t_rows : Int32) (t_columns : Int32) (p1 : Int32) : Option (Int32) :=
(if p1 < 0 then
(some ((0 : Int32)))
else
((fX3_stones t_rows t_columns).bind fun r2 =>
(if r2 ≤ p1 then
(some ((0 : Int32)))
else
(some ((1 : Int32))))))
def oX3_hasStone (D : jv_D) (h_t : Nat) (h_t_ruledOut : Nat) (t_rows : Int32) (t_columns : Int32) (t_paints : Int32) (t_apart : Int32) (t_paintsOf0 : Int32) (t_paintsOf1 : Int32) (t_old : Int32) (t_shut : Int32) (t_all : Int32) (t_firstColumn : Int32) (t_fitsAtFirst : Int32) (t_paintingsOf0 : Int32) (t_paintingsOf1 : Int32) (r : Int32) : va_W := [(h_t, .inr (2, [.int t_rows, .int t_columns, .int t_paints, .int t_apart, .int t_paintsOf0, .int t_paintsOf1, .int t_old, .int t_shut, .int t_all, .int t_firstColumn, .int t_fitsAtFirst, .int t_paintingsOf0, .int t_paintingsOf1, .ref h_t_ruledOut]))]
set_option maxHeartbeats 40000000 in
set_option maxRecDepth 100000 in
theorem mX3_hasStone (l : Launch) (D : jv_D) (h_t : Nat) (h_t_ruledOut : Nat) (t_rows : Int32) (t_columns : Int32) (t_paints : Int32) (t_apart : Int32) (t_paintsOf0 : Int32) (t_paintsOf1 : Int32) (t_old : Int32) (t_shut : Int32) (t_all : Int32) (t_firstColumn : Int32) (t_fitsAtFirst : Int32) (t_paintingsOf0 : Int32) (t_paintingsOf1 : Int32) (p1 : Int32) (r : Int32) (h : fX3_hasStone t_rows t_columns p1 = some r) : MM l yX3_hasStone (jW yX3_hasStone cX3_hasStone 2 (some .boolean)) ({ frames := 1, cells := 0, slots := 0, locals := 20 }) D [.ref h_t, .int p1] [(h_t, .inr (2, [.int t_rows, .int t_columns, .int t_paints, .int t_apart, .int t_paintsOf0, .int t_paintsOf1, .int t_old, .int t_shut, .int t_all, .int t_firstColumn, .int t_fitsAtFirst, .int t_paintingsOf0, .int t_paintingsOf1, .ref h_t_ruledOut]))] (some (.int r)) (oX3_hasStone D h_t h_t_ruledOut t_rows t_columns t_paints t_apart t_paintsOf0 t_paintsOf1 t_old t_shut t_all t_firstColumn t_fitsAtFirst t_paintingsOf0 t_paintingsOf1 r) := by
  refine mn_of hpX3_hasStone (Nat.le_of_ble_eq_true rfl) ?_
  intro X hXl C E0 hN
  subst hXl
  replace C : JC D X 2 RX3 cX3_hasStone ({ frames := 1, cells := 0, slots := 0, locals := 20 }) := C
  have E : JE D X 0 0 (some .boolean) (fun _ : Unit => (some (.int r))) (fun _ : Unit => (oX3_hasStone D h_t h_t_ruledOut t_rows t_columns t_paints t_apart t_paintsOf0 t_paintsOf1 t_old t_shut t_all t_firstColumn t_fitsAtFirst t_paintingsOf0 t_paintingsOf1 r)) := E0 0 0 rfl rfl
  clear E0 hN
  show JJ D X 2 0 0 0 [(0, .ref h_t), (1, .int p1)] [] [(h_t, .inr (2, [.int t_rows, .int t_columns, .int t_paints, .int t_apart, .int t_paintsOf0, .int t_paintsOf1, .int t_old, .int t_shut, .int t_all, .int t_firstColumn, .int t_fitsAtFirst, .int t_paintingsOf0, .int t_paintingsOf1, .ref h_t_ruledOut]))]
  unfold fX3_hasStone at h
  refine j_iload_n C dX3_hasStone_0 rfl 1 rfl ?_
  refine j_if_lt C (tgt := 16) dX3_hasStone_1 (by decide) h (fun c1 h => ?_) (fun c1 h => ?_)
  · refine j_iconst C dX3_hasStone_16 (v := (0 : Int32)) (by decide) ?_
    exact j_zretR C (r := r) (rtf := fun r => (some (.int r))) (wff := fun r => (oX3_hasStone D h_t h_t_ruledOut t_rows t_columns t_paints t_apart t_paintsOf0 t_paintsOf1 t_old t_shut t_all t_firstColumn t_fitsAtFirst t_paintingsOf0 t_paintingsOf1 r)) E rfl h rfl rfl dX3_hasStone_17
  · refine j_iload_n C dX3_hasStone_4 rfl 1 rfl ?_
    refine j_aload_n C dX3_hasStone_5 rfl 0 rfl ?_
    obtain ⟨r2, q3, h⟩ := jl_bind h
    refine j_cV1 C (mX3_stones (jlaunch X) D h_t h_t_ruledOut t_rows t_columns t_paints t_apart t_paintsOf0 t_paintsOf1 t_old t_shut t_all t_firstColumn t_fitsAtFirst t_paintingsOf0 t_paintingsOf1 r2 q3) bmX3_46 biX3_stones bsX3_stones bzX3 bcX3_stones rfl hX3_stones (rest := [.int p1]) rfl (jroom_of rfl) 0 (ci := 2) rfl rfl rfl [0] [] [0] (wr := []) (ws2 := [(h_t, .inr (2, [.int t_rows, .int t_columns, .int t_paints, .int t_apart, .int t_paintsOf0, .int t_paintsOf1, .int t_old, .int t_shut, .int t_all, .int t_firstColumn, .int t_fitsAtFirst, .int t_paintingsOf0, .int t_paintingsOf1, .ref h_t_ruledOut]))]) rfl rfl rfl rfl rfl (Nat.le_of_ble_eq_true rfl) dX3_hasStone_6 ?_
    refine j_icmp_ge C (tgt := 16) dX3_hasStone_9 (by decide) h (fun c4 h => ?_) (fun c4 h => ?_)
    · refine j_iconst C dX3_hasStone_16 (v := (0 : Int32)) (by decide) ?_
      exact j_zretR C (r := r) (rtf := fun r => (some (.int r))) (wff := fun r => (oX3_hasStone D h_t h_t_ruledOut t_rows t_columns t_paints t_apart t_paintsOf0 t_paintsOf1 t_old t_shut t_all t_firstColumn t_fitsAtFirst t_paintingsOf0 t_paintingsOf1 r)) E rfl h rfl rfl dX3_hasStone_17
    · refine j_iconst C dX3_hasStone_12 (v := (1 : Int32)) (by decide) ?_
      refine j_goto C dX3_hasStone_13 (tgt := 17) (by decide) ?_
      exact j_zretR C (r := r) (rtf := fun r => (some (.int r))) (wff := fun r => (oX3_hasStone D h_t h_t_ruledOut t_rows t_columns t_paints t_apart t_paintsOf0 t_paintsOf1 t_old t_shut t_all t_firstColumn t_fitsAtFirst t_paintingsOf0 t_paintingsOf1 r)) E rfl h rfl rfl dX3_hasStone_17
theorem dX3_hasPaint_0 : decode cX3_hasPaint 0 = .ok (.iload_n 1, 1) := by decide +kernel
theorem dX3_hasPaint_1 : decode cX3_hasPaint 1 = .ok (.iconst 1, 1) := by decide +kernel
theorem dX3_hasPaint_2 : decode cX3_hasPaint 2 = .ok (.if_icmp .lt 15, 3) := by decide +kernel
theorem dX3_hasPaint_5 : decode cX3_hasPaint 5 = .ok (.iload_n 1, 1) := by decide +kernel
theorem dX3_hasPaint_6 : decode cX3_hasPaint 6 = .ok (.aload_n 0, 1) := by decide +kernel
theorem dX3_hasPaint_7 : decode cX3_hasPaint 7 = .ok (.getfield 28, 3) := by decide +kernel
theorem dX3_hasPaint_10 : decode cX3_hasPaint 10 = .ok (.if_icmp .gt 7, 3) := by decide +kernel
theorem dX3_hasPaint_13 : decode cX3_hasPaint 13 = .ok (.iconst 1, 1) := by decide +kernel
theorem dX3_hasPaint_14 : decode cX3_hasPaint 14 = .ok (.goto 4, 3) := by decide +kernel
theorem dX3_hasPaint_17 : decode cX3_hasPaint 17 = .ok (.iconst 0, 1) := by decide +kernel
theorem dX3_hasPaint_18 : decode cX3_hasPaint 18 = .ok (.ireturn, 1) := by decide +kernel
def fX3_hasPaint (t_paints : Int32) (p1 : Int32) : Option (Int32) :=
(if p1 < ((1 : Int32)) then
(some ((0 : Int32)))
else
(if t_paints < p1 then
(some ((0 : Int32)))
else
(some ((1 : Int32)))))
def oX3_hasPaint (D : jv_D) (h_t : Nat) (h_t_ruledOut : Nat) (t_rows : Int32) (t_columns : Int32) (t_paints : Int32) (t_apart : Int32) (t_paintsOf0 : Int32) (t_paintsOf1 : Int32) (t_old : Int32) (t_shut : Int32) (t_all : Int32) (t_firstColumn : Int32) (t_fitsAtFirst : Int32) (t_paintingsOf0 : Int32) (t_paintingsOf1 : Int32) (r : Int32) : va_W := [(h_t, .inr (2, [.int t_rows, .int t_columns, .int t_paints, .int t_apart, .int t_paintsOf0, .int t_paintsOf1, .int t_old, .int t_shut, .int t_all, .int t_firstColumn, .int t_fitsAtFirst, .int t_paintingsOf0, .int t_paintingsOf1, .ref h_t_ruledOut]))]
set_option maxHeartbeats 40000000 in
set_option maxRecDepth 100000 in
theorem mX3_hasPaint (l : Launch) (D : jv_D) (h_t : Nat) (h_t_ruledOut : Nat) (t_rows : Int32) (t_columns : Int32) (t_paints : Int32) (t_apart : Int32) (t_paintsOf0 : Int32) (t_paintsOf1 : Int32) (t_old : Int32) (t_shut : Int32) (t_all : Int32) (t_firstColumn : Int32) (t_fitsAtFirst : Int32) (t_paintingsOf0 : Int32) (t_paintingsOf1 : Int32) (p1 : Int32) (r : Int32) (h : fX3_hasPaint t_paints p1 = some r) : MM l yX3_hasPaint (jW yX3_hasPaint cX3_hasPaint 2 (some .boolean)) ({ frames := 0, cells := 0, slots := 0, locals := 0 }) D [.ref h_t, .int p1] [(h_t, .inr (2, [.int t_rows, .int t_columns, .int t_paints, .int t_apart, .int t_paintsOf0, .int t_paintsOf1, .int t_old, .int t_shut, .int t_all, .int t_firstColumn, .int t_fitsAtFirst, .int t_paintingsOf0, .int t_paintingsOf1, .ref h_t_ruledOut]))] (some (.int r)) (oX3_hasPaint D h_t h_t_ruledOut t_rows t_columns t_paints t_apart t_paintsOf0 t_paintsOf1 t_old t_shut t_all t_firstColumn t_fitsAtFirst t_paintingsOf0 t_paintingsOf1 r) := by
  refine mn_of hpX3_hasPaint (Nat.le_of_ble_eq_true rfl) ?_
  intro X hXl C E0 hN
  subst hXl
  replace C : JC D X 2 RX3 cX3_hasPaint ({ frames := 0, cells := 0, slots := 0, locals := 0 }) := C
  have E : JE D X 0 0 (some .boolean) (fun _ : Unit => (some (.int r))) (fun _ : Unit => (oX3_hasPaint D h_t h_t_ruledOut t_rows t_columns t_paints t_apart t_paintsOf0 t_paintsOf1 t_old t_shut t_all t_firstColumn t_fitsAtFirst t_paintingsOf0 t_paintingsOf1 r)) := E0 0 0 rfl rfl
  clear E0 hN
  show JJ D X 2 0 0 0 [(0, .ref h_t), (1, .int p1)] [] [(h_t, .inr (2, [.int t_rows, .int t_columns, .int t_paints, .int t_apart, .int t_paintsOf0, .int t_paintsOf1, .int t_old, .int t_shut, .int t_all, .int t_firstColumn, .int t_fitsAtFirst, .int t_paintingsOf0, .int t_paintingsOf1, .ref h_t_ruledOut]))]
  unfold fX3_hasPaint at h
  refine j_iload_n C dX3_hasPaint_0 rfl 1 rfl ?_
  refine j_iconst C dX3_hasPaint_1 (v := (1 : Int32)) (by decide) ?_
  refine j_icmp_lt C (tgt := 17) dX3_hasPaint_2 (by decide) h (fun c1 h => ?_) (fun c1 h => ?_)
  · refine j_iconst C dX3_hasPaint_17 (v := (0 : Int32)) (by decide) ?_
    exact j_zretR C (r := r) (rtf := fun r => (some (.int r))) (wff := fun r => (oX3_hasPaint D h_t h_t_ruledOut t_rows t_columns t_paints t_apart t_paintsOf0 t_paintsOf1 t_old t_shut t_all t_firstColumn t_fitsAtFirst t_paintingsOf0 t_paintingsOf1 r)) E rfl h rfl rfl dX3_hasPaint_18
  · refine j_iload_n C dX3_hasPaint_5 rfl 1 rfl ?_
    refine j_aload_n C dX3_hasPaint_6 rfl 0 rfl ?_
    refine j_get C ibX3 (ci := 2) 0 rfl rfl 2 (by decide) bfX3_28 (v := .int t_paints) rfl dX3_hasPaint_7 ?_
    refine j_icmp_gt C (tgt := 17) dX3_hasPaint_10 (by decide) h (fun c2 h => ?_) (fun c2 h => ?_)
    · refine j_iconst C dX3_hasPaint_17 (v := (0 : Int32)) (by decide) ?_
      exact j_zretR C (r := r) (rtf := fun r => (some (.int r))) (wff := fun r => (oX3_hasPaint D h_t h_t_ruledOut t_rows t_columns t_paints t_apart t_paintsOf0 t_paintsOf1 t_old t_shut t_all t_firstColumn t_fitsAtFirst t_paintingsOf0 t_paintingsOf1 r)) E rfl h rfl rfl dX3_hasPaint_18
    · refine j_iconst C dX3_hasPaint_13 (v := (1 : Int32)) (by decide) ?_
      refine j_goto C dX3_hasPaint_14 (tgt := 18) (by decide) ?_
      exact j_zretR C (r := r) (rtf := fun r => (some (.int r))) (wff := fun r => (oX3_hasPaint D h_t h_t_ruledOut t_rows t_columns t_paints t_apart t_paintsOf0 t_paintsOf1 t_old t_shut t_all t_firstColumn t_fitsAtFirst t_paintingsOf0 t_paintingsOf1 r)) E rfl h rfl rfl dX3_hasPaint_18
theorem dX3_setApart_0 : decode cX3_setApart 0 = .ok (.aload_n 0, 1) := by decide +kernel
theorem dX3_setApart_1 : decode cX3_setApart 1 = .ok (.dup, 1) := by decide +kernel
theorem dX3_setApart_2 : decode cX3_setApart 2 = .ok (.getfield 31, 3) := by decide +kernel
theorem dX3_setApart_5 : decode cX3_setApart 5 = .ok (.iload_n 1, 1) := by decide +kernel
theorem dX3_setApart_6 : decode cX3_setApart 6 = .ok (.iload_n 2, 1) := by decide +kernel
theorem dX3_setApart_7 : decode cX3_setApart 7 = .ok (.invokestatic 59, 3) := by decide +kernel
theorem dX3_setApart_10 : decode cX3_setApart 10 = .ok (.iload_n 2, 1) := by decide +kernel
theorem dX3_setApart_11 : decode cX3_setApart 11 = .ok (.iload_n 1, 1) := by decide +kernel
theorem dX3_setApart_12 : decode cX3_setApart 12 = .ok (.invokestatic 59, 3) := by decide +kernel
theorem dX3_setApart_15 : decode cX3_setApart 15 = .ok (.ior, 1) := by decide +kernel
theorem dX3_setApart_16 : decode cX3_setApart 16 = .ok (.ior, 1) := by decide +kernel
theorem dX3_setApart_17 : decode cX3_setApart 17 = .ok (.putfield 31, 3) := by decide +kernel
theorem dX3_setApart_20 : decode cX3_setApart 20 = .ok (.return_, 1) := by decide +kernel
def fX3_setApart (t_apart : Int32) (p1 : Int32) (p2 : Int32) : Option (Int32) :=
((fX3_pair p1 p2).bind fun r1 =>
((fX3_pair p2 p1).bind fun r3 =>
(jl_let (t_apart ||| (r1 ||| r3)) fun w5 =>
(some (w5)))))
def oX3_setApart (D : jv_D) (h_t : Nat) (h_t_ruledOut : Nat) (t_rows : Int32) (t_columns : Int32) (t_paints : Int32) (t_paintsOf0 : Int32) (t_paintsOf1 : Int32) (t_old : Int32) (t_shut : Int32) (t_all : Int32) (t_firstColumn : Int32) (t_fitsAtFirst : Int32) (t_paintingsOf0 : Int32) (t_paintingsOf1 : Int32) (r : Int32) : va_W := [(h_t, .inr (2, [.int t_rows, .int t_columns, .int t_paints, .int r, .int t_paintsOf0, .int t_paintsOf1, .int t_old, .int t_shut, .int t_all, .int t_firstColumn, .int t_fitsAtFirst, .int t_paintingsOf0, .int t_paintingsOf1, .ref h_t_ruledOut]))]
set_option maxHeartbeats 40000000 in
set_option maxRecDepth 100000 in
theorem mX3_setApart (l : Launch) (D : jv_D) (h_t : Nat) (h_t_ruledOut : Nat) (t_rows : Int32) (t_columns : Int32) (t_paints : Int32) (t_apart : Int32) (t_paintsOf0 : Int32) (t_paintsOf1 : Int32) (t_old : Int32) (t_shut : Int32) (t_all : Int32) (t_firstColumn : Int32) (t_fitsAtFirst : Int32) (t_paintingsOf0 : Int32) (t_paintingsOf1 : Int32) (p1 : Int32) (p2 : Int32) (r : Int32) (h : fX3_setApart t_apart p1 p2 = some r) : MM l yX3_setApart (jW yX3_setApart cX3_setApart 3 none) ({ frames := 1, cells := 0, slots := 0, locals := 21 }) D [.ref h_t, .int p1, .int p2] [(h_t, .inr (2, [.int t_rows, .int t_columns, .int t_paints, .int t_apart, .int t_paintsOf0, .int t_paintsOf1, .int t_old, .int t_shut, .int t_all, .int t_firstColumn, .int t_fitsAtFirst, .int t_paintingsOf0, .int t_paintingsOf1, .ref h_t_ruledOut]))] none (oX3_setApart D h_t h_t_ruledOut t_rows t_columns t_paints t_paintsOf0 t_paintsOf1 t_old t_shut t_all t_firstColumn t_fitsAtFirst t_paintingsOf0 t_paintingsOf1 r) := by
  refine mn_of hpX3_setApart (Nat.le_of_ble_eq_true rfl) ?_
  intro X hXl C E0 hN
  subst hXl
  replace C : JC D X 3 RX3 cX3_setApart ({ frames := 1, cells := 0, slots := 0, locals := 21 }) := C
  have E : JE D X 0 0 none (fun _ : Unit => none) (fun _ : Unit => (oX3_setApart D h_t h_t_ruledOut t_rows t_columns t_paints t_paintsOf0 t_paintsOf1 t_old t_shut t_all t_firstColumn t_fitsAtFirst t_paintingsOf0 t_paintingsOf1 r)) := E0 0 0 rfl rfl
  clear E0 hN
  show JJ D X 3 0 0 0 [(0, .ref h_t), (1, .int p1), (2, .int p2)] [] [(h_t, .inr (2, [.int t_rows, .int t_columns, .int t_paints, .int t_apart, .int t_paintsOf0, .int t_paintsOf1, .int t_old, .int t_shut, .int t_all, .int t_firstColumn, .int t_fitsAtFirst, .int t_paintingsOf0, .int t_paintingsOf1, .ref h_t_ruledOut]))]
  unfold fX3_setApart at h
  refine j_aload_n C dX3_setApart_0 rfl 0 rfl ?_
  refine j_dup C dX3_setApart_1 rfl ?_
  refine j_get C ibX3 (ci := 2) 0 rfl rfl 3 (by decide) bfX3_31 (v := .int t_apart) rfl dX3_setApart_2 ?_
  refine j_iload_n C dX3_setApart_5 rfl 1 rfl ?_
  refine j_iload_n C dX3_setApart_6 rfl 2 rfl ?_
  obtain ⟨r1, q2, h⟩ := jl_bind h
  refine j_cS1 C (mX3_pair (jlaunch X) D p1 p2 r1 q2) bmX3_59 btX3_pair bzX3 bcX3_pair hX3_pair (rest := [.int t_apart, .ref h_t]) rfl (jroom_of rfl) [] [0] [0] (wr := [(h_t, .inr (2, [.int t_rows, .int t_columns, .int t_paints, .int t_apart, .int t_paintsOf0, .int t_paintsOf1, .int t_old, .int t_shut, .int t_all, .int t_firstColumn, .int t_fitsAtFirst, .int t_paintingsOf0, .int t_paintingsOf1, .ref h_t_ruledOut]))]) (ws2 := [(h_t, .inr (2, [.int t_rows, .int t_columns, .int t_paints, .int t_apart, .int t_paintsOf0, .int t_paintsOf1, .int t_old, .int t_shut, .int t_all, .int t_firstColumn, .int t_fitsAtFirst, .int t_paintingsOf0, .int t_paintingsOf1, .ref h_t_ruledOut]))]) rfl rfl rfl rfl rfl (Nat.le_of_ble_eq_true rfl) dX3_setApart_7 ?_
  refine j_iload_n C dX3_setApart_10 rfl 2 rfl ?_
  refine j_iload_n C dX3_setApart_11 rfl 1 rfl ?_
  obtain ⟨r3, q4, h⟩ := jl_bind h
  refine j_cS1 C (mX3_pair (jlaunch X) D p2 p1 r3 q4) bmX3_59 btX3_pair bzX3 bcX3_pair hX3_pair (rest := [.int r1, .int t_apart, .ref h_t]) rfl (jroom_of rfl) [] [0] [0] (wr := [(h_t, .inr (2, [.int t_rows, .int t_columns, .int t_paints, .int t_apart, .int t_paintsOf0, .int t_paintsOf1, .int t_old, .int t_shut, .int t_all, .int t_firstColumn, .int t_fitsAtFirst, .int t_paintingsOf0, .int t_paintingsOf1, .ref h_t_ruledOut]))]) (ws2 := [(h_t, .inr (2, [.int t_rows, .int t_columns, .int t_paints, .int t_apart, .int t_paintsOf0, .int t_paintsOf1, .int t_old, .int t_shut, .int t_all, .int t_firstColumn, .int t_fitsAtFirst, .int t_paintingsOf0, .int t_paintingsOf1, .ref h_t_ruledOut]))]) rfl rfl rfl rfl rfl (Nat.le_of_ble_eq_true rfl) dX3_setApart_12 ?_
  refine j_ior C dX3_setApart_15 ?_
  refine j_ior C dX3_setApart_16 ?_
  refine j_nmi h (fun w5 h => ?_)
  refine j_put C ibX3 tyX3 tyX3_ok nmX3 (ci := 2) 0 rfl rfl 3 (by decide) bfX3_31 rfl rfl rfl (Nat.le_of_ble_eq_true rfl) dX3_setApart_17 (ws' := [(h_t, .inr (2, [.int t_rows, .int t_columns, .int t_paints, .int w5, .int t_paintsOf0, .int t_paintsOf1, .int t_old, .int t_shut, .int t_all, .int t_firstColumn, .int t_fitsAtFirst, .int t_paintingsOf0, .int t_paintingsOf1, .ref h_t_ruledOut]))]) rfl ?_
  exact j_vretR C (r := r) (rtf := fun r => none) (wff := fun r => (oX3_setApart D h_t h_t_ruledOut t_rows t_columns t_paints t_paintsOf0 t_paintsOf1 t_old t_shut t_all t_firstColumn t_fitsAtFirst t_paintingsOf0 t_paintingsOf1 r)) E h rfl rfl dX3_setApart_20
theorem dX3_setTogether_0 : decode cX3_setTogether 0 = .ok (.aload_n 0, 1) := by decide +kernel
theorem dX3_setTogether_1 : decode cX3_setTogether 1 = .ok (.dup, 1) := by decide +kernel
theorem dX3_setTogether_2 : decode cX3_setTogether 2 = .ok (.getfield 31, 3) := by decide +kernel
theorem dX3_setTogether_5 : decode cX3_setTogether 5 = .ok (.iload_n 1, 1) := by decide +kernel
theorem dX3_setTogether_6 : decode cX3_setTogether 6 = .ok (.iload_n 2, 1) := by decide +kernel
theorem dX3_setTogether_7 : decode cX3_setTogether 7 = .ok (.invokestatic 59, 3) := by decide +kernel
theorem dX3_setTogether_10 : decode cX3_setTogether 10 = .ok (.iload_n 2, 1) := by decide +kernel
theorem dX3_setTogether_11 : decode cX3_setTogether 11 = .ok (.iload_n 1, 1) := by decide +kernel
theorem dX3_setTogether_12 : decode cX3_setTogether 12 = .ok (.invokestatic 59, 3) := by decide +kernel
theorem dX3_setTogether_15 : decode cX3_setTogether 15 = .ok (.ior, 1) := by decide +kernel
theorem dX3_setTogether_16 : decode cX3_setTogether 16 = .ok (.iconst (-1), 1) := by decide +kernel
theorem dX3_setTogether_17 : decode cX3_setTogether 17 = .ok (.ixor, 1) := by decide +kernel
theorem dX3_setTogether_18 : decode cX3_setTogether 18 = .ok (.iand, 1) := by decide +kernel
theorem dX3_setTogether_19 : decode cX3_setTogether 19 = .ok (.putfield 31, 3) := by decide +kernel
theorem dX3_setTogether_22 : decode cX3_setTogether 22 = .ok (.return_, 1) := by decide +kernel
def fX3_setTogether (t_apart : Int32) (p1 : Int32) (p2 : Int32) : Option (Int32) :=
((fX3_pair p1 p2).bind fun r1 =>
((fX3_pair p2 p1).bind fun r3 =>
(jl_let (t_apart &&& ((r1 ||| r3) ^^^ ((-1 : Int32)))) fun w5 =>
(some (w5)))))
def oX3_setTogether (D : jv_D) (h_t : Nat) (h_t_ruledOut : Nat) (t_rows : Int32) (t_columns : Int32) (t_paints : Int32) (t_paintsOf0 : Int32) (t_paintsOf1 : Int32) (t_old : Int32) (t_shut : Int32) (t_all : Int32) (t_firstColumn : Int32) (t_fitsAtFirst : Int32) (t_paintingsOf0 : Int32) (t_paintingsOf1 : Int32) (r : Int32) : va_W := [(h_t, .inr (2, [.int t_rows, .int t_columns, .int t_paints, .int r, .int t_paintsOf0, .int t_paintsOf1, .int t_old, .int t_shut, .int t_all, .int t_firstColumn, .int t_fitsAtFirst, .int t_paintingsOf0, .int t_paintingsOf1, .ref h_t_ruledOut]))]
set_option maxHeartbeats 40000000 in
set_option maxRecDepth 100000 in
theorem mX3_setTogether (l : Launch) (D : jv_D) (h_t : Nat) (h_t_ruledOut : Nat) (t_rows : Int32) (t_columns : Int32) (t_paints : Int32) (t_apart : Int32) (t_paintsOf0 : Int32) (t_paintsOf1 : Int32) (t_old : Int32) (t_shut : Int32) (t_all : Int32) (t_firstColumn : Int32) (t_fitsAtFirst : Int32) (t_paintingsOf0 : Int32) (t_paintingsOf1 : Int32) (p1 : Int32) (p2 : Int32) (r : Int32) (h : fX3_setTogether t_apart p1 p2 = some r) : MM l yX3_setTogether (jW yX3_setTogether cX3_setTogether 3 none) ({ frames := 1, cells := 0, slots := 0, locals := 21 }) D [.ref h_t, .int p1, .int p2] [(h_t, .inr (2, [.int t_rows, .int t_columns, .int t_paints, .int t_apart, .int t_paintsOf0, .int t_paintsOf1, .int t_old, .int t_shut, .int t_all, .int t_firstColumn, .int t_fitsAtFirst, .int t_paintingsOf0, .int t_paintingsOf1, .ref h_t_ruledOut]))] none (oX3_setTogether D h_t h_t_ruledOut t_rows t_columns t_paints t_paintsOf0 t_paintsOf1 t_old t_shut t_all t_firstColumn t_fitsAtFirst t_paintingsOf0 t_paintingsOf1 r) := by
  refine mn_of hpX3_setTogether (Nat.le_of_ble_eq_true rfl) ?_
  intro X hXl C E0 hN
  subst hXl
  replace C : JC D X 3 RX3 cX3_setTogether ({ frames := 1, cells := 0, slots := 0, locals := 21 }) := C
  have E : JE D X 0 0 none (fun _ : Unit => none) (fun _ : Unit => (oX3_setTogether D h_t h_t_ruledOut t_rows t_columns t_paints t_paintsOf0 t_paintsOf1 t_old t_shut t_all t_firstColumn t_fitsAtFirst t_paintingsOf0 t_paintingsOf1 r)) := E0 0 0 rfl rfl
  clear E0 hN
  show JJ D X 3 0 0 0 [(0, .ref h_t), (1, .int p1), (2, .int p2)] [] [(h_t, .inr (2, [.int t_rows, .int t_columns, .int t_paints, .int t_apart, .int t_paintsOf0, .int t_paintsOf1, .int t_old, .int t_shut, .int t_all, .int t_firstColumn, .int t_fitsAtFirst, .int t_paintingsOf0, .int t_paintingsOf1, .ref h_t_ruledOut]))]
  unfold fX3_setTogether at h
  refine j_aload_n C dX3_setTogether_0 rfl 0 rfl ?_
  refine j_dup C dX3_setTogether_1 rfl ?_
  refine j_get C ibX3 (ci := 2) 0 rfl rfl 3 (by decide) bfX3_31 (v := .int t_apart) rfl dX3_setTogether_2 ?_
  refine j_iload_n C dX3_setTogether_5 rfl 1 rfl ?_
  refine j_iload_n C dX3_setTogether_6 rfl 2 rfl ?_
  obtain ⟨r1, q2, h⟩ := jl_bind h
  refine j_cS1 C (mX3_pair (jlaunch X) D p1 p2 r1 q2) bmX3_59 btX3_pair bzX3 bcX3_pair hX3_pair (rest := [.int t_apart, .ref h_t]) rfl (jroom_of rfl) [] [0] [0] (wr := [(h_t, .inr (2, [.int t_rows, .int t_columns, .int t_paints, .int t_apart, .int t_paintsOf0, .int t_paintsOf1, .int t_old, .int t_shut, .int t_all, .int t_firstColumn, .int t_fitsAtFirst, .int t_paintingsOf0, .int t_paintingsOf1, .ref h_t_ruledOut]))]) (ws2 := [(h_t, .inr (2, [.int t_rows, .int t_columns, .int t_paints, .int t_apart, .int t_paintsOf0, .int t_paintsOf1, .int t_old, .int t_shut, .int t_all, .int t_firstColumn, .int t_fitsAtFirst, .int t_paintingsOf0, .int t_paintingsOf1, .ref h_t_ruledOut]))]) rfl rfl rfl rfl rfl (Nat.le_of_ble_eq_true rfl) dX3_setTogether_7 ?_
  refine j_iload_n C dX3_setTogether_10 rfl 2 rfl ?_
  refine j_iload_n C dX3_setTogether_11 rfl 1 rfl ?_
  obtain ⟨r3, q4, h⟩ := jl_bind h
  refine j_cS1 C (mX3_pair (jlaunch X) D p2 p1 r3 q4) bmX3_59 btX3_pair bzX3 bcX3_pair hX3_pair (rest := [.int r1, .int t_apart, .ref h_t]) rfl (jroom_of rfl) [] [0] [0] (wr := [(h_t, .inr (2, [.int t_rows, .int t_columns, .int t_paints, .int t_apart, .int t_paintsOf0, .int t_paintsOf1, .int t_old, .int t_shut, .int t_all, .int t_firstColumn, .int t_fitsAtFirst, .int t_paintingsOf0, .int t_paintingsOf1, .ref h_t_ruledOut]))]) (ws2 := [(h_t, .inr (2, [.int t_rows, .int t_columns, .int t_paints, .int t_apart, .int t_paintsOf0, .int t_paintsOf1, .int t_old, .int t_shut, .int t_all, .int t_firstColumn, .int t_fitsAtFirst, .int t_paintingsOf0, .int t_paintingsOf1, .ref h_t_ruledOut]))]) rfl rfl rfl rfl rfl (Nat.le_of_ble_eq_true rfl) dX3_setTogether_12 ?_
  refine j_ior C dX3_setTogether_15 ?_
  refine j_iconst C dX3_setTogether_16 (v := (-1 : Int32)) (by decide) ?_
  refine j_ixor C dX3_setTogether_17 ?_
  refine j_iand C dX3_setTogether_18 ?_
  refine j_nmi h (fun w5 h => ?_)
  refine j_put C ibX3 tyX3 tyX3_ok nmX3 (ci := 2) 0 rfl rfl 3 (by decide) bfX3_31 rfl rfl rfl (Nat.le_of_ble_eq_true rfl) dX3_setTogether_19 (ws' := [(h_t, .inr (2, [.int t_rows, .int t_columns, .int t_paints, .int w5, .int t_paintsOf0, .int t_paintsOf1, .int t_old, .int t_shut, .int t_all, .int t_firstColumn, .int t_fitsAtFirst, .int t_paintingsOf0, .int t_paintingsOf1, .ref h_t_ruledOut]))]) rfl ?_
  exact j_vretR C (r := r) (rtf := fun r => none) (wff := fun r => (oX3_setTogether D h_t h_t_ruledOut t_rows t_columns t_paints t_paintsOf0 t_paintsOf1 t_old t_shut t_all t_firstColumn t_fitsAtFirst t_paintingsOf0 t_paintingsOf1 r)) E h rfl rfl dX3_setTogether_22
theorem dX3_withoutPaint_0 : decode cX3_withoutPaint 0 = .ok (.iload_n 0, 1) := by decide +kernel
theorem dX3_withoutPaint_1 : decode cX3_withoutPaint 1 = .ok (.iload_n 1, 1) := by decide +kernel
theorem dX3_withoutPaint_2 : decode cX3_withoutPaint 2 = .ok (.iload_n 1, 1) := by decide +kernel
theorem dX3_withoutPaint_3 : decode cX3_withoutPaint 3 = .ok (.bipush 9, 2) := by decide +kernel
theorem dX3_withoutPaint_5 : decode cX3_withoutPaint 5 = .ok (.ishl, 1) := by decide +kernel
theorem dX3_withoutPaint_6 : decode cX3_withoutPaint 6 = .ok (.ior, 1) := by decide +kernel
theorem dX3_withoutPaint_7 : decode cX3_withoutPaint 7 = .ok (.iload_n 1, 1) := by decide +kernel
theorem dX3_withoutPaint_8 : decode cX3_withoutPaint 8 = .ok (.bipush 18, 2) := by decide +kernel
theorem dX3_withoutPaint_10 : decode cX3_withoutPaint 10 = .ok (.ishl, 1) := by decide +kernel
theorem dX3_withoutPaint_11 : decode cX3_withoutPaint 11 = .ok (.ior, 1) := by decide +kernel
theorem dX3_withoutPaint_12 : decode cX3_withoutPaint 12 = .ok (.iconst (-1), 1) := by decide +kernel
theorem dX3_withoutPaint_13 : decode cX3_withoutPaint 13 = .ok (.ixor, 1) := by decide +kernel
theorem dX3_withoutPaint_14 : decode cX3_withoutPaint 14 = .ok (.iand, 1) := by decide +kernel
theorem dX3_withoutPaint_15 : decode cX3_withoutPaint 15 = .ok (.ireturn, 1) := by decide +kernel
def fX3_withoutPaint (p0 : Int32) (p1 : Int32) : Option (Int32) :=
(some (p0 &&& (((p1 ||| (p1 <<< (((9 : Int32)) &&& 31))) ||| (p1 <<< (((18 : Int32)) &&& 31))) ^^^ ((-1 : Int32)))))
def oX3_withoutPaint (D : jv_D)  (r : Int32) : va_W := []
set_option maxHeartbeats 40000000 in
set_option maxRecDepth 100000 in
theorem mX3_withoutPaint (l : Launch) (D : jv_D) (p0 : Int32) (p1 : Int32) (r : Int32) (h : fX3_withoutPaint p0 p1 = some r) : MM l yX3_withoutPaint (jW yX3_withoutPaint cX3_withoutPaint 2 (some .int)) ({ frames := 0, cells := 0, slots := 0, locals := 0 }) D [.int p0, .int p1] [] (some (.int r)) (oX3_withoutPaint D  r) := by
  refine mn_of hpX3_withoutPaint (Nat.le_of_ble_eq_true rfl) ?_
  intro X hXl C E0 hN
  subst hXl
  replace C : JC D X 2 RX3 cX3_withoutPaint ({ frames := 0, cells := 0, slots := 0, locals := 0 }) := C
  have E : JE D X 0 0 (some .int) (fun _ : Unit => (some (.int r))) (fun _ : Unit => (oX3_withoutPaint D  r)) := E0 0 0 rfl rfl
  clear E0 hN
  show JJ D X 2 0 0 0 [(0, .int p0), (1, .int p1)] [] []
  unfold fX3_withoutPaint at h
  refine j_iload_n C dX3_withoutPaint_0 rfl 0 rfl ?_
  refine j_iload_n C dX3_withoutPaint_1 rfl 1 rfl ?_
  refine j_iload_n C dX3_withoutPaint_2 rfl 1 rfl ?_
  refine j_bipush C dX3_withoutPaint_3 (v := (9 : Int32)) (by decide) ?_
  refine j_ishl C dX3_withoutPaint_5 ?_
  refine j_ior C dX3_withoutPaint_6 ?_
  refine j_iload_n C dX3_withoutPaint_7 rfl 1 rfl ?_
  refine j_bipush C dX3_withoutPaint_8 (v := (18 : Int32)) (by decide) ?_
  refine j_ishl C dX3_withoutPaint_10 ?_
  refine j_ior C dX3_withoutPaint_11 ?_
  refine j_iconst C dX3_withoutPaint_12 (v := (-1 : Int32)) (by decide) ?_
  refine j_ixor C dX3_withoutPaint_13 ?_
  refine j_iand C dX3_withoutPaint_14 ?_
  exact j_iretR C (r := r) (rtf := fun r => (some (.int r))) (wff := fun r => (oX3_withoutPaint D  r)) E h rfl rfl dX3_withoutPaint_15
theorem dX3_setOld_0 : decode cX3_setOld 0 = .ok (.aload_n 0, 1) := by decide +kernel
theorem dX3_setOld_1 : decode cX3_setOld 1 = .ok (.aload_n 0, 1) := by decide +kernel
theorem dX3_setOld_2 : decode cX3_setOld 2 = .ok (.getfield 40, 3) := by decide +kernel
theorem dX3_setOld_5 : decode cX3_setOld 5 = .ok (.iconst 1, 1) := by decide +kernel
theorem dX3_setOld_6 : decode cX3_setOld 6 = .ok (.iload_n 1, 1) := by decide +kernel
theorem dX3_setOld_7 : decode cX3_setOld 7 = .ok (.ishl, 1) := by decide +kernel
theorem dX3_setOld_8 : decode cX3_setOld 8 = .ok (.invokestatic 63, 3) := by decide +kernel
theorem dX3_setOld_11 : decode cX3_setOld 11 = .ok (.iload_n 1, 1) := by decide +kernel
theorem dX3_setOld_12 : decode cX3_setOld 12 = .ok (.iload_n 2, 1) := by decide +kernel
theorem dX3_setOld_13 : decode cX3_setOld 13 = .ok (.invokestatic 66, 3) := by decide +kernel
theorem dX3_setOld_16 : decode cX3_setOld 16 = .ok (.ior, 1) := by decide +kernel
theorem dX3_setOld_17 : decode cX3_setOld 17 = .ok (.putfield 40, 3) := by decide +kernel
theorem dX3_setOld_20 : decode cX3_setOld 20 = .ok (.aload_n 0, 1) := by decide +kernel
theorem dX3_setOld_21 : decode cX3_setOld 21 = .ok (.dup, 1) := by decide +kernel
theorem dX3_setOld_22 : decode cX3_setOld 22 = .ok (.getfield 43, 3) := by decide +kernel
theorem dX3_setOld_25 : decode cX3_setOld 25 = .ok (.iconst 1, 1) := by decide +kernel
theorem dX3_setOld_26 : decode cX3_setOld 26 = .ok (.iload_n 1, 1) := by decide +kernel
theorem dX3_setOld_27 : decode cX3_setOld 27 = .ok (.ishl, 1) := by decide +kernel
theorem dX3_setOld_28 : decode cX3_setOld 28 = .ok (.iconst (-1), 1) := by decide +kernel
theorem dX3_setOld_29 : decode cX3_setOld 29 = .ok (.ixor, 1) := by decide +kernel
theorem dX3_setOld_30 : decode cX3_setOld 30 = .ok (.iand, 1) := by decide +kernel
theorem dX3_setOld_31 : decode cX3_setOld 31 = .ok (.putfield 43, 3) := by decide +kernel
theorem dX3_setOld_34 : decode cX3_setOld 34 = .ok (.return_, 1) := by decide +kernel
def fX3_setOld (t_old : Int32) (t_shut : Int32) (p1 : Int32) (p2 : Int32) : Option (Int32 × Int32) :=
((fX3_withoutPaint t_old (((1 : Int32)) <<< (p1 &&& 31))).bind fun r1 =>
((fX3_painting p1 p2).bind fun r3 =>
(jl_let (r1 ||| r3) fun w5 =>
(jl_let (t_shut &&& ((((1 : Int32)) <<< (p1 &&& 31)) ^^^ ((-1 : Int32)))) fun w6 =>
(some (w5, w6))))))
def oX3_setOld (D : jv_D) (h_t : Nat) (h_t_ruledOut : Nat) (t_rows : Int32) (t_columns : Int32) (t_paints : Int32) (t_apart : Int32) (t_paintsOf0 : Int32) (t_paintsOf1 : Int32) (t_all : Int32) (t_firstColumn : Int32) (t_fitsAtFirst : Int32) (t_paintingsOf0 : Int32) (t_paintingsOf1 : Int32) (r : Int32 × Int32) : va_W := [(h_t, .inr (2, [.int t_rows, .int t_columns, .int t_paints, .int t_apart, .int t_paintsOf0, .int t_paintsOf1, .int r.1, .int r.2, .int t_all, .int t_firstColumn, .int t_fitsAtFirst, .int t_paintingsOf0, .int t_paintingsOf1, .ref h_t_ruledOut]))]
set_option maxHeartbeats 40000000 in
set_option maxRecDepth 100000 in
theorem mX3_setOld (l : Launch) (D : jv_D) (h_t : Nat) (h_t_ruledOut : Nat) (t_rows : Int32) (t_columns : Int32) (t_paints : Int32) (t_apart : Int32) (t_paintsOf0 : Int32) (t_paintsOf1 : Int32) (t_old : Int32) (t_shut : Int32) (t_all : Int32) (t_firstColumn : Int32) (t_fitsAtFirst : Int32) (t_paintingsOf0 : Int32) (t_paintingsOf1 : Int32) (p1 : Int32) (p2 : Int32) (r : Int32 × Int32) (h : fX3_setOld t_old t_shut p1 p2 = some r) : MM l yX3_setOld (jW yX3_setOld cX3_setOld 3 none) ({ frames := 1, cells := 0, slots := 0, locals := 21 }) D [.ref h_t, .int p1, .int p2] [(h_t, .inr (2, [.int t_rows, .int t_columns, .int t_paints, .int t_apart, .int t_paintsOf0, .int t_paintsOf1, .int t_old, .int t_shut, .int t_all, .int t_firstColumn, .int t_fitsAtFirst, .int t_paintingsOf0, .int t_paintingsOf1, .ref h_t_ruledOut]))] none (oX3_setOld D h_t h_t_ruledOut t_rows t_columns t_paints t_apart t_paintsOf0 t_paintsOf1 t_all t_firstColumn t_fitsAtFirst t_paintingsOf0 t_paintingsOf1 r) := by
  refine mn_of hpX3_setOld (Nat.le_of_ble_eq_true rfl) ?_
  intro X hXl C E0 hN
  subst hXl
  replace C : JC D X 3 RX3 cX3_setOld ({ frames := 1, cells := 0, slots := 0, locals := 21 }) := C
  have E : JE D X 0 0 none (fun _ : Unit => none) (fun _ : Unit => (oX3_setOld D h_t h_t_ruledOut t_rows t_columns t_paints t_apart t_paintsOf0 t_paintsOf1 t_all t_firstColumn t_fitsAtFirst t_paintingsOf0 t_paintingsOf1 r)) := E0 0 0 rfl rfl
  clear E0 hN
  show JJ D X 3 0 0 0 [(0, .ref h_t), (1, .int p1), (2, .int p2)] [] [(h_t, .inr (2, [.int t_rows, .int t_columns, .int t_paints, .int t_apart, .int t_paintsOf0, .int t_paintsOf1, .int t_old, .int t_shut, .int t_all, .int t_firstColumn, .int t_fitsAtFirst, .int t_paintingsOf0, .int t_paintingsOf1, .ref h_t_ruledOut]))]
  unfold fX3_setOld at h
  refine j_aload_n C dX3_setOld_0 rfl 0 rfl ?_
  refine j_aload_n C dX3_setOld_1 rfl 0 rfl ?_
  refine j_get C ibX3 (ci := 2) 0 rfl rfl 6 (by decide) bfX3_40 (v := .int t_old) rfl dX3_setOld_2 ?_
  refine j_iconst C dX3_setOld_5 (v := (1 : Int32)) (by decide) ?_
  refine j_iload_n C dX3_setOld_6 rfl 1 rfl ?_
  refine j_ishl C dX3_setOld_7 ?_
  obtain ⟨r1, q2, h⟩ := jl_bind h
  refine j_cS1 C (mX3_withoutPaint (jlaunch X) D t_old (((1 : Int32)) <<< (p1 &&& 31)) r1 q2) bmX3_63 btX3_withoutPaint bzX3 bcX3_withoutPaint hX3_withoutPaint (rest := [.ref h_t]) rfl (jroom_of rfl) [] [0] [0] (wr := [(h_t, .inr (2, [.int t_rows, .int t_columns, .int t_paints, .int t_apart, .int t_paintsOf0, .int t_paintsOf1, .int t_old, .int t_shut, .int t_all, .int t_firstColumn, .int t_fitsAtFirst, .int t_paintingsOf0, .int t_paintingsOf1, .ref h_t_ruledOut]))]) (ws2 := [(h_t, .inr (2, [.int t_rows, .int t_columns, .int t_paints, .int t_apart, .int t_paintsOf0, .int t_paintsOf1, .int t_old, .int t_shut, .int t_all, .int t_firstColumn, .int t_fitsAtFirst, .int t_paintingsOf0, .int t_paintingsOf1, .ref h_t_ruledOut]))]) rfl rfl rfl rfl rfl (Nat.le_of_ble_eq_true rfl) dX3_setOld_8 ?_
  refine j_iload_n C dX3_setOld_11 rfl 1 rfl ?_
  refine j_iload_n C dX3_setOld_12 rfl 2 rfl ?_
  obtain ⟨r3, q4, h⟩ := jl_bind h
  refine j_cS1 C (mX3_painting (jlaunch X) D p1 p2 r3 q4) bmX3_66 btX3_painting bzX3 bcX3_painting hX3_painting (rest := [.int r1, .ref h_t]) rfl (jroom_of rfl) [] [0] [0] (wr := [(h_t, .inr (2, [.int t_rows, .int t_columns, .int t_paints, .int t_apart, .int t_paintsOf0, .int t_paintsOf1, .int t_old, .int t_shut, .int t_all, .int t_firstColumn, .int t_fitsAtFirst, .int t_paintingsOf0, .int t_paintingsOf1, .ref h_t_ruledOut]))]) (ws2 := [(h_t, .inr (2, [.int t_rows, .int t_columns, .int t_paints, .int t_apart, .int t_paintsOf0, .int t_paintsOf1, .int t_old, .int t_shut, .int t_all, .int t_firstColumn, .int t_fitsAtFirst, .int t_paintingsOf0, .int t_paintingsOf1, .ref h_t_ruledOut]))]) rfl rfl rfl rfl rfl (Nat.le_of_ble_eq_true rfl) dX3_setOld_13 ?_
  refine j_ior C dX3_setOld_16 ?_
  refine j_nmi h (fun w5 h => ?_)
  refine j_put C ibX3 tyX3 tyX3_ok nmX3 (ci := 2) 0 rfl rfl 6 (by decide) bfX3_40 rfl rfl rfl (Nat.le_of_ble_eq_true rfl) dX3_setOld_17 (ws' := [(h_t, .inr (2, [.int t_rows, .int t_columns, .int t_paints, .int t_apart, .int t_paintsOf0, .int t_paintsOf1, .int w5, .int t_shut, .int t_all, .int t_firstColumn, .int t_fitsAtFirst, .int t_paintingsOf0, .int t_paintingsOf1, .ref h_t_ruledOut]))]) rfl ?_
  refine j_aload_n C dX3_setOld_20 rfl 0 rfl ?_
  refine j_dup C dX3_setOld_21 rfl ?_
  refine j_get C ibX3 (ci := 2) 0 rfl rfl 7 (by decide) bfX3_43 (v := .int t_shut) rfl dX3_setOld_22 ?_
  refine j_iconst C dX3_setOld_25 (v := (1 : Int32)) (by decide) ?_
  refine j_iload_n C dX3_setOld_26 rfl 1 rfl ?_
  refine j_ishl C dX3_setOld_27 ?_
  refine j_iconst C dX3_setOld_28 (v := (-1 : Int32)) (by decide) ?_
  refine j_ixor C dX3_setOld_29 ?_
  refine j_iand C dX3_setOld_30 ?_
  refine j_nmi h (fun w6 h => ?_)
  refine j_put C ibX3 tyX3 tyX3_ok nmX3 (ci := 2) 0 rfl rfl 7 (by decide) bfX3_43 rfl rfl rfl (Nat.le_of_ble_eq_true rfl) dX3_setOld_31 (ws' := [(h_t, .inr (2, [.int t_rows, .int t_columns, .int t_paints, .int t_apart, .int t_paintsOf0, .int t_paintsOf1, .int w5, .int w6, .int t_all, .int t_firstColumn, .int t_fitsAtFirst, .int t_paintingsOf0, .int t_paintingsOf1, .ref h_t_ruledOut]))]) rfl ?_
  exact j_vretR C (r := r) (rtf := fun r => none) (wff := fun r => (oX3_setOld D h_t h_t_ruledOut t_rows t_columns t_paints t_apart t_paintsOf0 t_paintsOf1 t_all t_firstColumn t_fitsAtFirst t_paintingsOf0 t_paintingsOf1 r)) E h rfl rfl dX3_setOld_34
theorem dX3_setShut_0 : decode cX3_setShut 0 = .ok (.aload_n 0, 1) := by decide +kernel
theorem dX3_setShut_1 : decode cX3_setShut 1 = .ok (.aload_n 0, 1) := by decide +kernel
theorem dX3_setShut_2 : decode cX3_setShut 2 = .ok (.getfield 40, 3) := by decide +kernel
theorem dX3_setShut_5 : decode cX3_setShut 5 = .ok (.iconst 1, 1) := by decide +kernel
theorem dX3_setShut_6 : decode cX3_setShut 6 = .ok (.iload_n 1, 1) := by decide +kernel
theorem dX3_setShut_7 : decode cX3_setShut 7 = .ok (.ishl, 1) := by decide +kernel
theorem dX3_setShut_8 : decode cX3_setShut 8 = .ok (.invokestatic 63, 3) := by decide +kernel
theorem dX3_setShut_11 : decode cX3_setShut 11 = .ok (.putfield 40, 3) := by decide +kernel
theorem dX3_setShut_14 : decode cX3_setShut 14 = .ok (.aload_n 0, 1) := by decide +kernel
theorem dX3_setShut_15 : decode cX3_setShut 15 = .ok (.dup, 1) := by decide +kernel
theorem dX3_setShut_16 : decode cX3_setShut 16 = .ok (.getfield 43, 3) := by decide +kernel
theorem dX3_setShut_19 : decode cX3_setShut 19 = .ok (.iconst 1, 1) := by decide +kernel
theorem dX3_setShut_20 : decode cX3_setShut 20 = .ok (.iload_n 1, 1) := by decide +kernel
theorem dX3_setShut_21 : decode cX3_setShut 21 = .ok (.ishl, 1) := by decide +kernel
theorem dX3_setShut_22 : decode cX3_setShut 22 = .ok (.ior, 1) := by decide +kernel
theorem dX3_setShut_23 : decode cX3_setShut 23 = .ok (.putfield 43, 3) := by decide +kernel
theorem dX3_setShut_26 : decode cX3_setShut 26 = .ok (.return_, 1) := by decide +kernel
def fX3_setShut (t_old : Int32) (t_shut : Int32) (p1 : Int32) : Option (Int32 × Int32) :=
((fX3_withoutPaint t_old (((1 : Int32)) <<< (p1 &&& 31))).bind fun r1 =>
(jl_let (t_shut ||| (((1 : Int32)) <<< (p1 &&& 31))) fun w3 =>
(some (r1, w3))))
def oX3_setShut (D : jv_D) (h_t : Nat) (h_t_ruledOut : Nat) (t_rows : Int32) (t_columns : Int32) (t_paints : Int32) (t_apart : Int32) (t_paintsOf0 : Int32) (t_paintsOf1 : Int32) (t_all : Int32) (t_firstColumn : Int32) (t_fitsAtFirst : Int32) (t_paintingsOf0 : Int32) (t_paintingsOf1 : Int32) (r : Int32 × Int32) : va_W := [(h_t, .inr (2, [.int t_rows, .int t_columns, .int t_paints, .int t_apart, .int t_paintsOf0, .int t_paintsOf1, .int r.1, .int r.2, .int t_all, .int t_firstColumn, .int t_fitsAtFirst, .int t_paintingsOf0, .int t_paintingsOf1, .ref h_t_ruledOut]))]
set_option maxHeartbeats 40000000 in
set_option maxRecDepth 100000 in
theorem mX3_setShut (l : Launch) (D : jv_D) (h_t : Nat) (h_t_ruledOut : Nat) (t_rows : Int32) (t_columns : Int32) (t_paints : Int32) (t_apart : Int32) (t_paintsOf0 : Int32) (t_paintsOf1 : Int32) (t_old : Int32) (t_shut : Int32) (t_all : Int32) (t_firstColumn : Int32) (t_fitsAtFirst : Int32) (t_paintingsOf0 : Int32) (t_paintingsOf1 : Int32) (p1 : Int32) (r : Int32 × Int32) (h : fX3_setShut t_old t_shut p1 = some r) : MM l yX3_setShut (jW yX3_setShut cX3_setShut 2 none) ({ frames := 1, cells := 0, slots := 0, locals := 21 }) D [.ref h_t, .int p1] [(h_t, .inr (2, [.int t_rows, .int t_columns, .int t_paints, .int t_apart, .int t_paintsOf0, .int t_paintsOf1, .int t_old, .int t_shut, .int t_all, .int t_firstColumn, .int t_fitsAtFirst, .int t_paintingsOf0, .int t_paintingsOf1, .ref h_t_ruledOut]))] none (oX3_setShut D h_t h_t_ruledOut t_rows t_columns t_paints t_apart t_paintsOf0 t_paintsOf1 t_all t_firstColumn t_fitsAtFirst t_paintingsOf0 t_paintingsOf1 r) := by
  refine mn_of hpX3_setShut (Nat.le_of_ble_eq_true rfl) ?_
  intro X hXl C E0 hN
  subst hXl
  replace C : JC D X 2 RX3 cX3_setShut ({ frames := 1, cells := 0, slots := 0, locals := 21 }) := C
  have E : JE D X 0 0 none (fun _ : Unit => none) (fun _ : Unit => (oX3_setShut D h_t h_t_ruledOut t_rows t_columns t_paints t_apart t_paintsOf0 t_paintsOf1 t_all t_firstColumn t_fitsAtFirst t_paintingsOf0 t_paintingsOf1 r)) := E0 0 0 rfl rfl
  clear E0 hN
  show JJ D X 2 0 0 0 [(0, .ref h_t), (1, .int p1)] [] [(h_t, .inr (2, [.int t_rows, .int t_columns, .int t_paints, .int t_apart, .int t_paintsOf0, .int t_paintsOf1, .int t_old, .int t_shut, .int t_all, .int t_firstColumn, .int t_fitsAtFirst, .int t_paintingsOf0, .int t_paintingsOf1, .ref h_t_ruledOut]))]
  unfold fX3_setShut at h
  refine j_aload_n C dX3_setShut_0 rfl 0 rfl ?_
  refine j_aload_n C dX3_setShut_1 rfl 0 rfl ?_
  refine j_get C ibX3 (ci := 2) 0 rfl rfl 6 (by decide) bfX3_40 (v := .int t_old) rfl dX3_setShut_2 ?_
  refine j_iconst C dX3_setShut_5 (v := (1 : Int32)) (by decide) ?_
  refine j_iload_n C dX3_setShut_6 rfl 1 rfl ?_
  refine j_ishl C dX3_setShut_7 ?_
  obtain ⟨r1, q2, h⟩ := jl_bind h
  refine j_cS1 C (mX3_withoutPaint (jlaunch X) D t_old (((1 : Int32)) <<< (p1 &&& 31)) r1 q2) bmX3_63 btX3_withoutPaint bzX3 bcX3_withoutPaint hX3_withoutPaint (rest := [.ref h_t]) rfl (jroom_of rfl) [] [0] [0] (wr := [(h_t, .inr (2, [.int t_rows, .int t_columns, .int t_paints, .int t_apart, .int t_paintsOf0, .int t_paintsOf1, .int t_old, .int t_shut, .int t_all, .int t_firstColumn, .int t_fitsAtFirst, .int t_paintingsOf0, .int t_paintingsOf1, .ref h_t_ruledOut]))]) (ws2 := [(h_t, .inr (2, [.int t_rows, .int t_columns, .int t_paints, .int t_apart, .int t_paintsOf0, .int t_paintsOf1, .int t_old, .int t_shut, .int t_all, .int t_firstColumn, .int t_fitsAtFirst, .int t_paintingsOf0, .int t_paintingsOf1, .ref h_t_ruledOut]))]) rfl rfl rfl rfl rfl (Nat.le_of_ble_eq_true rfl) dX3_setShut_8 ?_
  refine j_put C ibX3 tyX3 tyX3_ok nmX3 (ci := 2) 0 rfl rfl 6 (by decide) bfX3_40 rfl rfl rfl (Nat.le_of_ble_eq_true rfl) dX3_setShut_11 (ws' := [(h_t, .inr (2, [.int t_rows, .int t_columns, .int t_paints, .int t_apart, .int t_paintsOf0, .int t_paintsOf1, .int r1, .int t_shut, .int t_all, .int t_firstColumn, .int t_fitsAtFirst, .int t_paintingsOf0, .int t_paintingsOf1, .ref h_t_ruledOut]))]) rfl ?_
  refine j_aload_n C dX3_setShut_14 rfl 0 rfl ?_
  refine j_dup C dX3_setShut_15 rfl ?_
  refine j_get C ibX3 (ci := 2) 0 rfl rfl 7 (by decide) bfX3_43 (v := .int t_shut) rfl dX3_setShut_16 ?_
  refine j_iconst C dX3_setShut_19 (v := (1 : Int32)) (by decide) ?_
  refine j_iload_n C dX3_setShut_20 rfl 1 rfl ?_
  refine j_ishl C dX3_setShut_21 ?_
  refine j_ior C dX3_setShut_22 ?_
  refine j_nmi h (fun w3 h => ?_)
  refine j_put C ibX3 tyX3 tyX3_ok nmX3 (ci := 2) 0 rfl rfl 7 (by decide) bfX3_43 rfl rfl rfl (Nat.le_of_ble_eq_true rfl) dX3_setShut_23 (ws' := [(h_t, .inr (2, [.int t_rows, .int t_columns, .int t_paints, .int t_apart, .int t_paintsOf0, .int t_paintsOf1, .int r1, .int w3, .int t_all, .int t_firstColumn, .int t_fitsAtFirst, .int t_paintingsOf0, .int t_paintingsOf1, .ref h_t_ruledOut]))]) rfl ?_
  exact j_vretR C (r := r) (rtf := fun r => none) (wff := fun r => (oX3_setShut D h_t h_t_ruledOut t_rows t_columns t_paints t_apart t_paintsOf0 t_paintsOf1 t_all t_firstColumn t_fitsAtFirst t_paintingsOf0 t_paintingsOf1 r)) E h rfl rfl dX3_setShut_26
theorem dX3_oldOnesClash_0 : decode cX3_oldOnesClash 0 = .ok (.iconst 0, 1) := by decide +kernel
theorem dX3_oldOnesClash_1 : decode cX3_oldOnesClash 1 = .ok (.istore_n 1, 1) := by decide +kernel
theorem dX3_oldOnesClash_2 : decode cX3_oldOnesClash 2 = .ok (.iload_n 1, 1) := by decide +kernel
theorem dX3_oldOnesClash_3 : decode cX3_oldOnesClash 3 = .ok (.aload_n 0, 1) := by decide +kernel
theorem dX3_oldOnesClash_4 : decode cX3_oldOnesClash 4 = .ok (.getfield 9, 3) := by decide +kernel
theorem dX3_oldOnesClash_7 : decode cX3_oldOnesClash 7 = .ok (.arraylength, 1) := by decide +kernel
theorem dX3_oldOnesClash_8 : decode cX3_oldOnesClash 8 = .ok (.if_icmp .ge 42, 3) := by decide +kernel
theorem dX3_oldOnesClash_11 : decode cX3_oldOnesClash 11 = .ok (.iconst 1, 1) := by decide +kernel
theorem dX3_oldOnesClash_12 : decode cX3_oldOnesClash 12 = .ok (.iload_n 1, 1) := by decide +kernel
theorem dX3_oldOnesClash_13 : decode cX3_oldOnesClash 13 = .ok (.ishl, 1) := by decide +kernel
theorem dX3_oldOnesClash_14 : decode cX3_oldOnesClash 14 = .ok (.istore_n 2, 1) := by decide +kernel
theorem dX3_oldOnesClash_15 : decode cX3_oldOnesClash 15 = .ok (.aload_n 0, 1) := by decide +kernel
theorem dX3_oldOnesClash_16 : decode cX3_oldOnesClash 16 = .ok (.getfield 40, 3) := by decide +kernel
theorem dX3_oldOnesClash_19 : decode cX3_oldOnesClash 19 = .ok (.iload_n 2, 1) := by decide +kernel
theorem dX3_oldOnesClash_20 : decode cX3_oldOnesClash 20 = .ok (.iand, 1) := by decide +kernel
theorem dX3_oldOnesClash_21 : decode cX3_oldOnesClash 21 = .ok (.ifCond .eq 23, 3) := by decide +kernel
theorem dX3_oldOnesClash_24 : decode cX3_oldOnesClash 24 = .ok (.aload_n 0, 1) := by decide +kernel
theorem dX3_oldOnesClash_25 : decode cX3_oldOnesClash 25 = .ok (.getfield 9, 3) := by decide +kernel
theorem dX3_oldOnesClash_28 : decode cX3_oldOnesClash 28 = .ok (.iload_n 1, 1) := by decide +kernel
theorem dX3_oldOnesClash_29 : decode cX3_oldOnesClash 29 = .ok (.iaload, 1) := by decide +kernel
theorem dX3_oldOnesClash_30 : decode cX3_oldOnesClash 30 = .ok (.aload_n 0, 1) := by decide +kernel
theorem dX3_oldOnesClash_31 : decode cX3_oldOnesClash 31 = .ok (.getfield 40, 3) := by decide +kernel
theorem dX3_oldOnesClash_34 : decode cX3_oldOnesClash 34 = .ok (.iand, 1) := by decide +kernel
theorem dX3_oldOnesClash_35 : decode cX3_oldOnesClash 35 = .ok (.iload_n 2, 1) := by decide +kernel
theorem dX3_oldOnesClash_36 : decode cX3_oldOnesClash 36 = .ok (.iconst (-1), 1) := by decide +kernel
theorem dX3_oldOnesClash_37 : decode cX3_oldOnesClash 37 = .ok (.ixor, 1) := by decide +kernel
theorem dX3_oldOnesClash_38 : decode cX3_oldOnesClash 38 = .ok (.iand, 1) := by decide +kernel
theorem dX3_oldOnesClash_39 : decode cX3_oldOnesClash 39 = .ok (.ifCond .eq 5, 3) := by decide +kernel
theorem dX3_oldOnesClash_42 : decode cX3_oldOnesClash 42 = .ok (.iconst 1, 1) := by decide +kernel
theorem dX3_oldOnesClash_43 : decode cX3_oldOnesClash 43 = .ok (.ireturn, 1) := by decide +kernel
theorem dX3_oldOnesClash_44 : decode cX3_oldOnesClash 44 = .ok (.iinc 1 1, 3) := by decide +kernel
theorem dX3_oldOnesClash_47 : decode cX3_oldOnesClash 47 = .ok (.goto (-45), 3) := by decide +kernel
theorem dX3_oldOnesClash_50 : decode cX3_oldOnesClash 50 = .ok (.iconst 0, 1) := by decide +kernel
theorem dX3_oldOnesClash_51 : decode cX3_oldOnesClash 51 = .ok (.ireturn, 1) := by decide +kernel
def bX3_oldOnesClash_2 (F : Nat) (t_old : Int32) (t_ruledOut_ : Nat → Int32)  (k2 : Int32 → Option (Int32)) (x1 : Int32) : Option (Int32) :=
(if ((27 : Int32)) ≤ x1 then
(some ((0 : Int32)))
else
(jl_let (((1 : Int32)) <<< (x1 &&& 31)) fun v3 =>
(if (t_old &&& v3) = 0 then
(jl_let (x1 + Int32.ofInt (1)) fun v5 =>
(k2 v5))
else
(if x1 < 0 ∨ 27 ≤ x1.toNatClampNeg then none else
(if (((t_ruledOut_ x1.toNatClampNeg) &&& t_old) &&& (v3 ^^^ ((-1 : Int32)))) = 0 then
(jl_let (x1 + Int32.ofInt (1)) fun v8 =>
(k2 v8))
else
(some ((1 : Int32))))))))
def lX3_oldOnesClash_2 (F : Nat) (t_old : Int32) (t_ruledOut_ : Nat → Int32)  (F2 : Nat) (x1 : Int32) : Option (Int32) := jl_loop1 (bX3_oldOnesClash_2 F t_old t_ruledOut_ ) F2 x1
def fX3_oldOnesClash (F : Nat) (t_old : Int32) (t_ruledOut_ : Nat → Int32) : Option (Int32) :=
(lX3_oldOnesClash_2 F t_old t_ruledOut_ F ((0 : Int32)))
def oX3_oldOnesClash (D : jv_D) (h_t : Nat) (h_t_ruledOut : Nat) (t_rows : Int32) (t_columns : Int32) (t_paints : Int32) (t_apart : Int32) (t_paintsOf0 : Int32) (t_paintsOf1 : Int32) (t_old : Int32) (t_shut : Int32) (t_all : Int32) (t_firstColumn : Int32) (t_fitsAtFirst : Int32) (t_paintingsOf0 : Int32) (t_paintingsOf1 : Int32) (t_ruledOut_ : Nat → Int32) (r : Int32) : va_W := [(h_t, .inr (2, [.int t_rows, .int t_columns, .int t_paints, .int t_apart, .int t_paintsOf0, .int t_paintsOf1, .int t_old, .int t_shut, .int t_all, .int t_firstColumn, .int t_fitsAtFirst, .int t_paintingsOf0, .int t_paintingsOf1, .ref h_t_ruledOut])), (h_t_ruledOut, jI D 27 t_ruledOut_)]
set_option maxHeartbeats 40000000 in
set_option maxRecDepth 100000 in
theorem mX3_oldOnesClash (l : Launch) (D : jv_D) (F : Nat) (h_t : Nat) (h_t_ruledOut : Nat) (t_rows : Int32) (t_columns : Int32) (t_paints : Int32) (t_apart : Int32) (t_paintsOf0 : Int32) (t_paintsOf1 : Int32) (t_old : Int32) (t_shut : Int32) (t_all : Int32) (t_firstColumn : Int32) (t_fitsAtFirst : Int32) (t_paintingsOf0 : Int32) (t_paintingsOf1 : Int32) (t_ruledOut_ : Nat → Int32) (r : Int32) (h : fX3_oldOnesClash F t_old t_ruledOut_ = some r) : MM l yX3_oldOnesClash (jW yX3_oldOnesClash cX3_oldOnesClash 3 (some .boolean)) ({ frames := 0, cells := 0, slots := 0, locals := 0 }) D [.ref h_t] [(h_t, .inr (2, [.int t_rows, .int t_columns, .int t_paints, .int t_apart, .int t_paintsOf0, .int t_paintsOf1, .int t_old, .int t_shut, .int t_all, .int t_firstColumn, .int t_fitsAtFirst, .int t_paintingsOf0, .int t_paintingsOf1, .ref h_t_ruledOut])), (h_t_ruledOut, jI D 27 t_ruledOut_)] (some (.int r)) (oX3_oldOnesClash D h_t h_t_ruledOut t_rows t_columns t_paints t_apart t_paintsOf0 t_paintsOf1 t_old t_shut t_all t_firstColumn t_fitsAtFirst t_paintingsOf0 t_paintingsOf1 t_ruledOut_ r) := by
  refine mn_of hpX3_oldOnesClash (Nat.le_of_ble_eq_true rfl) ?_
  intro X hXl C E0 hN
  subst hXl
  replace C : JC D X 3 RX3 cX3_oldOnesClash ({ frames := 0, cells := 0, slots := 0, locals := 0 }) := C
  have E : JE D X 0 0 (some .boolean) (fun _ : Unit => (some (.int r))) (fun _ : Unit => (oX3_oldOnesClash D h_t h_t_ruledOut t_rows t_columns t_paints t_apart t_paintsOf0 t_paintsOf1 t_old t_shut t_all t_firstColumn t_fitsAtFirst t_paintingsOf0 t_paintingsOf1 t_ruledOut_ r)) := E0 0 0 rfl rfl
  clear E0 hN
  show JJ D X 3 0 0 0 [(0, .ref h_t)] [] [(h_t, .inr (2, [.int t_rows, .int t_columns, .int t_paints, .int t_apart, .int t_paintsOf0, .int t_paintsOf1, .int t_old, .int t_shut, .int t_all, .int t_firstColumn, .int t_fitsAtFirst, .int t_paintingsOf0, .int t_paintingsOf1, .ref h_t_ruledOut])), (h_t_ruledOut, jI D 27 t_ruledOut_)]
  unfold fX3_oldOnesClash at h
  have L2 : ∀ (x1 : Int32), lX3_oldOnesClash_2 F t_old t_ruledOut_  F x1 = some r → JJ D X 3 0 0 2 [(0, .ref h_t), (1, .int x1)] [] [(h_t, .inr (2, [.int t_rows, .int t_columns, .int t_paints, .int t_apart, .int t_paintsOf0, .int t_paintsOf1, .int t_old, .int t_shut, .int t_all, .int t_firstColumn, .int t_fitsAtFirst, .int t_paintingsOf0, .int t_paintingsOf1, .ref h_t_ruledOut])), (h_t_ruledOut, jI D 27 t_ruledOut_)] := by
    intro x1 h
    refine jl_ind1 (fun x1 => JJ D X 3 0 0 2 [(0, .ref h_t), (1, .int x1)] [] [(h_t, .inr (2, [.int t_rows, .int t_columns, .int t_paints, .int t_apart, .int t_paintsOf0, .int t_paintsOf1, .int t_old, .int t_shut, .int t_all, .int t_firstColumn, .int t_fitsAtFirst, .int t_paintingsOf0, .int t_paintingsOf1, .ref h_t_ruledOut])), (h_t_ruledOut, jI D 27 t_ruledOut_)]) ?_ F x1 h
    clear h x1
    intro k2 i2 x1 h
    replace i2 : ∀ (x1 : Int32), k2 x1 = some r → JJ D X 3 0 0 2 [(0, .ref h_t), (1, .int x1)] [] [(h_t, .inr (2, [.int t_rows, .int t_columns, .int t_paints, .int t_apart, .int t_paintsOf0, .int t_paintsOf1, .int t_old, .int t_shut, .int t_all, .int t_firstColumn, .int t_fitsAtFirst, .int t_paintingsOf0, .int t_paintingsOf1, .ref h_t_ruledOut])), (h_t_ruledOut, jI D 27 t_ruledOut_)] := i2
    show JJ D X 3 0 0 2 [(0, .ref h_t), (1, .int x1)] [] [(h_t, .inr (2, [.int t_rows, .int t_columns, .int t_paints, .int t_apart, .int t_paintsOf0, .int t_paintsOf1, .int t_old, .int t_shut, .int t_all, .int t_firstColumn, .int t_fitsAtFirst, .int t_paintingsOf0, .int t_paintingsOf1, .ref h_t_ruledOut])), (h_t_ruledOut, jI D 27 t_ruledOut_)]
    unfold bX3_oldOnesClash_2 at h
    refine j_iload_n C dX3_oldOnesClash_2 rfl 1 rfl ?_
    refine j_aload_n C dX3_oldOnesClash_3 rfl 0 rfl ?_
    refine j_get C ibX3 (ci := 2) 0 rfl rfl 13 (by decide) bfX3_9 (v := .ref h_t_ruledOut) rfl dX3_oldOnesClash_4 ?_
    refine j_ilen C 1 rfl (v := (27 : Int32)) (by decide) dX3_oldOnesClash_7 ?_
    refine j_icmp_ge C (tgt := 50) dX3_oldOnesClash_8 (by decide) h (fun c2 h => ?_) (fun c2 h => ?_)
    · refine j_iconst C dX3_oldOnesClash_50 (v := (0 : Int32)) (by decide) ?_
      exact j_zretR C (r := r) (rtf := fun r => (some (.int r))) (wff := fun r => (oX3_oldOnesClash D h_t h_t_ruledOut t_rows t_columns t_paints t_apart t_paintsOf0 t_paintsOf1 t_old t_shut t_all t_firstColumn t_fitsAtFirst t_paintingsOf0 t_paintingsOf1 t_ruledOut_ r)) E rfl h rfl rfl dX3_oldOnesClash_51
    · refine j_iconst C dX3_oldOnesClash_11 (v := (1 : Int32)) (by decide) ?_
      refine j_iload_n C dX3_oldOnesClash_12 rfl 1 rfl ?_
      refine j_ishl C dX3_oldOnesClash_13 ?_
      refine j_istore_n C dX3_oldOnesClash_14 rfl (lv' := fun v3 => [(2, .int v3), (0, .ref h_t), (1, .int x1)]) (by decide) (fun _ => rfl) h (fun v3 h => ?_)
      refine j_aload_n C dX3_oldOnesClash_15 rfl 1 rfl ?_
      refine j_get C ibX3 (ci := 2) 0 rfl rfl 6 (by decide) bfX3_40 (v := .int t_old) rfl dX3_oldOnesClash_16 ?_
      refine j_iload_n C dX3_oldOnesClash_19 rfl 0 rfl ?_
      refine j_iand C dX3_oldOnesClash_20 ?_
      refine j_if_eq C (tgt := 44) dX3_oldOnesClash_21 (by decide) h (fun c4 h => ?_) (fun c4 h => ?_)
      · refine j_iinc C dX3_oldOnesClash_44 2 rfl (lv' := fun v5 => [(1, .int v5), (2, .int v3), (0, .ref h_t)]) (by decide) (fun _ => rfl) h (fun v5 h => ?_)
        refine j_goto C dX3_oldOnesClash_47 (tgt := 2) (by decide) ?_
        refine j_sub (lv' := [(0, .ref h_t), (1, .int v5)]) [2, 0] rfl ?_
        exact i2 v5 h
      · refine j_aload_n C dX3_oldOnesClash_24 rfl 1 rfl ?_
        refine j_get C ibX3 (ci := 2) 0 rfl rfl 13 (by decide) bfX3_9 (v := .ref h_t_ruledOut) rfl dX3_oldOnesClash_25 ?_
        refine j_iload_n C dX3_oldOnesClash_28 rfl 2 rfl ?_
        refine jl_inb h (fun b6 h => ?_)
        refine j_iald C 1 rfl b6 dX3_oldOnesClash_29 ?_
        refine j_aload_n C dX3_oldOnesClash_30 rfl 1 rfl ?_
        refine j_get C ibX3 (ci := 2) 0 rfl rfl 6 (by decide) bfX3_40 (v := .int t_old) rfl dX3_oldOnesClash_31 ?_
        refine j_iand C dX3_oldOnesClash_34 ?_
        refine j_iload_n C dX3_oldOnesClash_35 rfl 0 rfl ?_
        refine j_iconst C dX3_oldOnesClash_36 (v := (-1 : Int32)) (by decide) ?_
        refine j_ixor C dX3_oldOnesClash_37 ?_
        refine j_iand C dX3_oldOnesClash_38 ?_
        refine j_if_eq C (tgt := 44) dX3_oldOnesClash_39 (by decide) h (fun c7 h => ?_) (fun c7 h => ?_)
        · refine j_iinc C dX3_oldOnesClash_44 2 rfl (lv' := fun v8 => [(1, .int v8), (2, .int v3), (0, .ref h_t)]) (by decide) (fun _ => rfl) h (fun v8 h => ?_)
          refine j_goto C dX3_oldOnesClash_47 (tgt := 2) (by decide) ?_
          refine j_sub (lv' := [(0, .ref h_t), (1, .int v8)]) [2, 0] rfl ?_
          exact i2 v8 h
        · refine j_iconst C dX3_oldOnesClash_42 (v := (1 : Int32)) (by decide) ?_
          exact j_zretR C (r := r) (rtf := fun r => (some (.int r))) (wff := fun r => (oX3_oldOnesClash D h_t h_t_ruledOut t_rows t_columns t_paints t_apart t_paintsOf0 t_paintsOf1 t_old t_shut t_all t_firstColumn t_fitsAtFirst t_paintingsOf0 t_paintingsOf1 t_ruledOut_ r)) E rfl h rfl rfl dX3_oldOnesClash_43
  refine j_iconst C dX3_oldOnesClash_0 (v := (0 : Int32)) (by decide) ?_
  refine j_istore_nC C dX3_oldOnesClash_1 rfl (lv' := [(1, .int ((0 : Int32))), (0, .ref h_t)]) (by decide) rfl ?_
  refine j_sub (lv' := [(0, .ref h_t), (1, .int ((0 : Int32)))]) [1, 0] rfl ?_
  exact L2 ((0 : Int32)) h
theorem dX3_paintsAt_0 : decode cX3_paintsAt 0 = .ok (.iload_n 0, 1) := by decide +kernel
theorem dX3_paintsAt_1 : decode cX3_paintsAt 1 = .ok (.iload_n 1, 1) := by decide +kernel
theorem dX3_paintsAt_2 : decode cX3_paintsAt 2 = .ok (.ishr, 1) := by decide +kernel
theorem dX3_paintsAt_3 : decode cX3_paintsAt 3 = .ok (.istore_n 2, 1) := by decide +kernel
theorem dX3_paintsAt_4 : decode cX3_paintsAt 4 = .ok (.iload_n 2, 1) := by decide +kernel
theorem dX3_paintsAt_5 : decode cX3_paintsAt 5 = .ok (.iconst 1, 1) := by decide +kernel
theorem dX3_paintsAt_6 : decode cX3_paintsAt 6 = .ok (.iand, 1) := by decide +kernel
theorem dX3_paintsAt_7 : decode cX3_paintsAt 7 = .ok (.iload_n 2, 1) := by decide +kernel
theorem dX3_paintsAt_8 : decode cX3_paintsAt 8 = .ok (.bipush 9, 2) := by decide +kernel
theorem dX3_paintsAt_10 : decode cX3_paintsAt 10 = .ok (.ishr, 1) := by decide +kernel
theorem dX3_paintsAt_11 : decode cX3_paintsAt 11 = .ok (.iconst 1, 1) := by decide +kernel
theorem dX3_paintsAt_12 : decode cX3_paintsAt 12 = .ok (.iand, 1) := by decide +kernel
theorem dX3_paintsAt_13 : decode cX3_paintsAt 13 = .ok (.iconst 1, 1) := by decide +kernel
theorem dX3_paintsAt_14 : decode cX3_paintsAt 14 = .ok (.ishl, 1) := by decide +kernel
theorem dX3_paintsAt_15 : decode cX3_paintsAt 15 = .ok (.ior, 1) := by decide +kernel
theorem dX3_paintsAt_16 : decode cX3_paintsAt 16 = .ok (.iload_n 2, 1) := by decide +kernel
theorem dX3_paintsAt_17 : decode cX3_paintsAt 17 = .ok (.bipush 18, 2) := by decide +kernel
theorem dX3_paintsAt_19 : decode cX3_paintsAt 19 = .ok (.ishr, 1) := by decide +kernel
theorem dX3_paintsAt_20 : decode cX3_paintsAt 20 = .ok (.iconst 1, 1) := by decide +kernel
theorem dX3_paintsAt_21 : decode cX3_paintsAt 21 = .ok (.iand, 1) := by decide +kernel
theorem dX3_paintsAt_22 : decode cX3_paintsAt 22 = .ok (.iconst 2, 1) := by decide +kernel
theorem dX3_paintsAt_23 : decode cX3_paintsAt 23 = .ok (.ishl, 1) := by decide +kernel
theorem dX3_paintsAt_24 : decode cX3_paintsAt 24 = .ok (.ior, 1) := by decide +kernel
theorem dX3_paintsAt_25 : decode cX3_paintsAt 25 = .ok (.ireturn, 1) := by decide +kernel
def fX3_paintsAt (p0 : Int32) (p1 : Int32) : Option (Int32) :=
(jl_let (p0 >>> (p1 &&& 31)) fun v1 =>
(some (((v1 &&& ((1 : Int32))) ||| (((v1 >>> (((9 : Int32)) &&& 31)) &&& ((1 : Int32))) <<< (((1 : Int32)) &&& 31))) ||| (((v1 >>> (((18 : Int32)) &&& 31)) &&& ((1 : Int32))) <<< (((2 : Int32)) &&& 31)))))
def oX3_paintsAt (D : jv_D)  (r : Int32) : va_W := []
set_option maxHeartbeats 40000000 in
set_option maxRecDepth 100000 in
theorem mX3_paintsAt (l : Launch) (D : jv_D) (p0 : Int32) (p1 : Int32) (r : Int32) (h : fX3_paintsAt p0 p1 = some r) : MM l yX3_paintsAt (jW yX3_paintsAt cX3_paintsAt 3 (some .int)) ({ frames := 0, cells := 0, slots := 0, locals := 0 }) D [.int p0, .int p1] [] (some (.int r)) (oX3_paintsAt D  r) := by
  refine mn_of hpX3_paintsAt (Nat.le_of_ble_eq_true rfl) ?_
  intro X hXl C E0 hN
  subst hXl
  replace C : JC D X 3 RX3 cX3_paintsAt ({ frames := 0, cells := 0, slots := 0, locals := 0 }) := C
  have E : JE D X 0 0 (some .int) (fun _ : Unit => (some (.int r))) (fun _ : Unit => (oX3_paintsAt D  r)) := E0 0 0 rfl rfl
  clear E0 hN
  show JJ D X 3 0 0 0 [(0, .int p0), (1, .int p1)] [] []
  unfold fX3_paintsAt at h
  refine j_iload_n C dX3_paintsAt_0 rfl 0 rfl ?_
  refine j_iload_n C dX3_paintsAt_1 rfl 1 rfl ?_
  refine j_ishr C dX3_paintsAt_2 ?_
  refine j_istore_n C dX3_paintsAt_3 rfl (lv' := fun v1 => [(2, .int v1), (0, .int p0), (1, .int p1)]) (by decide) (fun _ => rfl) h (fun v1 h => ?_)
  refine j_iload_n C dX3_paintsAt_4 rfl 0 rfl ?_
  refine j_iconst C dX3_paintsAt_5 (v := (1 : Int32)) (by decide) ?_
  refine j_iand C dX3_paintsAt_6 ?_
  refine j_iload_n C dX3_paintsAt_7 rfl 0 rfl ?_
  refine j_bipush C dX3_paintsAt_8 (v := (9 : Int32)) (by decide) ?_
  refine j_ishr C dX3_paintsAt_10 ?_
  refine j_iconst C dX3_paintsAt_11 (v := (1 : Int32)) (by decide) ?_
  refine j_iand C dX3_paintsAt_12 ?_
  refine j_iconst C dX3_paintsAt_13 (v := (1 : Int32)) (by decide) ?_
  refine j_ishl C dX3_paintsAt_14 ?_
  refine j_ior C dX3_paintsAt_15 ?_
  refine j_iload_n C dX3_paintsAt_16 rfl 0 rfl ?_
  refine j_bipush C dX3_paintsAt_17 (v := (18 : Int32)) (by decide) ?_
  refine j_ishr C dX3_paintsAt_19 ?_
  refine j_iconst C dX3_paintsAt_20 (v := (1 : Int32)) (by decide) ?_
  refine j_iand C dX3_paintsAt_21 ?_
  refine j_iconst C dX3_paintsAt_22 (v := (2 : Int32)) (by decide) ?_
  refine j_ishl C dX3_paintsAt_23 ?_
  refine j_ior C dX3_paintsAt_24 ?_
  exact j_iretR C (r := r) (rtf := fun r => (some (.int r))) (wff := fun r => (oX3_paintsAt D  r)) E h rfl rfl dX3_paintsAt_25
theorem dX3_paintOn_0 : decode cX3_paintOn 0 = .ok (.iload_n 0, 1) := by decide +kernel
theorem dX3_paintOn_1 : decode cX3_paintOn 1 = .ok (.iload_n 1, 1) := by decide +kernel
theorem dX3_paintOn_2 : decode cX3_paintOn 2 = .ok (.invokestatic 106, 3) := by decide +kernel
theorem dX3_paintOn_5 : decode cX3_paintOn 5 = .ok (.istore_n 2, 1) := by decide +kernel
theorem dX3_paintOn_6 : decode cX3_paintOn 6 = .ok (.iload_n 2, 1) := by decide +kernel
theorem dX3_paintOn_7 : decode cX3_paintOn 7 = .ok (.iconst 4, 1) := by decide +kernel
theorem dX3_paintOn_8 : decode cX3_paintOn 8 = .ok (.if_icmp .ne 7, 3) := by decide +kernel
theorem dX3_paintOn_11 : decode cX3_paintOn 11 = .ok (.iconst 3, 1) := by decide +kernel
theorem dX3_paintOn_12 : decode cX3_paintOn 12 = .ok (.goto 4, 3) := by decide +kernel
theorem dX3_paintOn_15 : decode cX3_paintOn 15 = .ok (.iload_n 2, 1) := by decide +kernel
theorem dX3_paintOn_16 : decode cX3_paintOn 16 = .ok (.ireturn, 1) := by decide +kernel
def fX3_paintOn (p0 : Int32) (p1 : Int32) : Option (Int32) :=
((fX3_paintsAt p0 p1).bind fun r1 =>
(if r1 = ((4 : Int32)) then
(some ((3 : Int32)))
else
(some (r1))))
def oX3_paintOn (D : jv_D)  (r : Int32) : va_W := []
set_option maxHeartbeats 40000000 in
set_option maxRecDepth 100000 in
theorem mX3_paintOn (l : Launch) (D : jv_D) (p0 : Int32) (p1 : Int32) (r : Int32) (h : fX3_paintOn p0 p1 = some r) : MM l yX3_paintOn (jW yX3_paintOn cX3_paintOn 3 (some .int)) ({ frames := 1, cells := 0, slots := 0, locals := 22 }) D [.int p0, .int p1] [] (some (.int r)) (oX3_paintOn D  r) := by
  refine mn_of hpX3_paintOn (Nat.le_of_ble_eq_true rfl) ?_
  intro X hXl C E0 hN
  subst hXl
  replace C : JC D X 3 RX3 cX3_paintOn ({ frames := 1, cells := 0, slots := 0, locals := 22 }) := C
  have E : JE D X 0 0 (some .int) (fun _ : Unit => (some (.int r))) (fun _ : Unit => (oX3_paintOn D  r)) := E0 0 0 rfl rfl
  clear E0 hN
  show JJ D X 3 0 0 0 [(0, .int p0), (1, .int p1)] [] []
  unfold fX3_paintOn at h
  refine j_iload_n C dX3_paintOn_0 rfl 0 rfl ?_
  refine j_iload_n C dX3_paintOn_1 rfl 1 rfl ?_
  obtain ⟨r1, q2, h⟩ := jl_bind h
  refine j_cS1 C (mX3_paintsAt (jlaunch X) D p0 p1 r1 q2) bmX3_106 btX3_paintsAt bzX3 bcX3_paintsAt hX3_paintsAt (rest := []) rfl (jroom_of rfl) [] [] [] (wr := []) (ws2 := []) rfl rfl rfl rfl rfl (Nat.le_of_ble_eq_true rfl) dX3_paintOn_2 ?_
  refine j_istore_nC C dX3_paintOn_5 rfl (lv' := [(2, .int r1), (0, .int p0), (1, .int p1)]) (by decide) rfl ?_
  refine j_iload_n C dX3_paintOn_6 rfl 0 rfl ?_
  refine j_iconst C dX3_paintOn_7 (v := (4 : Int32)) (by decide) ?_
  refine j_icmp_ne C (tgt := 15) dX3_paintOn_8 (by decide) h (fun c3 h => ?_) (fun c3 h => ?_)
  · refine j_iconst C dX3_paintOn_11 (v := (3 : Int32)) (by decide) ?_
    refine j_goto C dX3_paintOn_12 (tgt := 16) (by decide) ?_
    exact j_iretR C (r := r) (rtf := fun r => (some (.int r))) (wff := fun r => (oX3_paintOn D  r)) E h rfl rfl dX3_paintOn_16
  · refine j_iload_n C dX3_paintOn_15 rfl 0 rfl ?_
    exact j_iretR C (r := r) (rtf := fun r => (some (.int r))) (wff := fun r => (oX3_paintOn D  r)) E h rfl rfl dX3_paintOn_16
