theorem dX2_stonesIn_0 : decode cX2_stonesIn 0 = .ok (.iconst 0, 1) := by decide +kernel
theorem dX2_stonesIn_1 : decode cX2_stonesIn 1 = .ok (.istore_n 2, 1) := by decide +kernel
theorem dX2_stonesIn_2 : decode cX2_stonesIn 2 = .ok (.iconst 1, 1) := by decide +kernel
theorem dX2_stonesIn_3 : decode cX2_stonesIn 3 = .ok (.istore_n 3, 1) := by decide +kernel
theorem dX2_stonesIn_4 : decode cX2_stonesIn 4 = .ok (.iload_n 3, 1) := by decide +kernel
theorem dX2_stonesIn_5 : decode cX2_stonesIn 5 = .ok (.iconst 3, 1) := by decide +kernel
theorem dX2_stonesIn_6 : decode cX2_stonesIn 6 = .ok (.if_icmp .gt 31, 3) := by decide +kernel
theorem dX2_stonesIn_9 : decode cX2_stonesIn 9 = .ok (.iload_n 2, 1) := by decide +kernel
theorem dX2_stonesIn_10 : decode cX2_stonesIn 10 = .ok (.iload_n 1, 1) := by decide +kernel
theorem dX2_stonesIn_11 : decode cX2_stonesIn 11 = .ok (.iload_n 3, 1) := by decide +kernel
theorem dX2_stonesIn_12 : decode cX2_stonesIn 12 = .ok (.iconst 1, 1) := by decide +kernel
theorem dX2_stonesIn_13 : decode cX2_stonesIn 13 = .ok (.isub, 1) := by decide +kernel
theorem dX2_stonesIn_14 : decode cX2_stonesIn 14 = .ok (.ishr, 1) := by decide +kernel
theorem dX2_stonesIn_15 : decode cX2_stonesIn 15 = .ok (.iconst 1, 1) := by decide +kernel
theorem dX2_stonesIn_16 : decode cX2_stonesIn 16 = .ok (.iand, 1) := by decide +kernel
theorem dX2_stonesIn_17 : decode cX2_stonesIn 17 = .ok (.ifCond .eq 11, 3) := by decide +kernel
theorem dX2_stonesIn_20 : decode cX2_stonesIn 20 = .ok (.iload_n 0, 1) := by decide +kernel
theorem dX2_stonesIn_21 : decode cX2_stonesIn 21 = .ok (.iload_n 3, 1) := by decide +kernel
theorem dX2_stonesIn_22 : decode cX2_stonesIn 22 = .ok (.invokestatic 46, 3) := by decide +kernel
theorem dX2_stonesIn_25 : decode cX2_stonesIn 25 = .ok (.goto 4, 3) := by decide +kernel
theorem dX2_stonesIn_28 : decode cX2_stonesIn 28 = .ok (.iconst 0, 1) := by decide +kernel
theorem dX2_stonesIn_29 : decode cX2_stonesIn 29 = .ok (.ior, 1) := by decide +kernel
theorem dX2_stonesIn_30 : decode cX2_stonesIn 30 = .ok (.istore_n 2, 1) := by decide +kernel
theorem dX2_stonesIn_31 : decode cX2_stonesIn 31 = .ok (.iinc 3 1, 3) := by decide +kernel
theorem dX2_stonesIn_34 : decode cX2_stonesIn 34 = .ok (.goto (-30), 3) := by decide +kernel
theorem dX2_stonesIn_37 : decode cX2_stonesIn 37 = .ok (.iload_n 2, 1) := by decide +kernel
theorem dX2_stonesIn_38 : decode cX2_stonesIn 38 = .ok (.ireturn, 1) := by decide +kernel
def fX2_stonesIn_29 (F : Nat) (p0 : Int32) (p1 : Int32) (k4 : Int32 → Int32 → Option (Int32)) (x5 : Int32) (s6 : Int32) (s7 : Int32) : Option (Int32) :=
(jl_let (s7 ||| s6) fun v10 =>
(jl_let (x5 + Int32.ofInt (1)) fun v11 =>
(k4 v10 v11)))
def bX2_stonesIn_4 (F : Nat) (p0 : Int32) (p1 : Int32)  (k4 : Int32 → Int32 → Option (Int32)) (x1 : Int32) (x2 : Int32) : Option (Int32) :=
(if ((3 : Int32)) < x2 then
(some (x1))
else
(if ((p1 >>> ((x2 - ((1 : Int32))) &&& 31)) &&& ((1 : Int32))) = 0 then
(fX2_stonesIn_29 F p0 p1 k4 x2 ((0 : Int32)) x1)
else
((fX3_stonesWith p0 x2).bind fun r8 =>
(fX2_stonesIn_29 F p0 p1 k4 x2 r8 x1))))
def lX2_stonesIn_4 (F : Nat) (p0 : Int32) (p1 : Int32)  (F2 : Nat) (x1 : Int32) (x2 : Int32) : Option (Int32) := jl_loop2 (bX2_stonesIn_4 F p0 p1 ) F2 x1 x2
def fX2_stonesIn (F : Nat) (p0 : Int32) (p1 : Int32) : Option (Int32) :=
(lX2_stonesIn_4 F p0 p1 F ((0 : Int32)) ((1 : Int32)))
def oX2_stonesIn (D : jv_D)  (r : Int32) : va_W := []
set_option maxHeartbeats 40000000 in
set_option maxRecDepth 100000 in
theorem mX2_stonesIn (l : Launch) (D : jv_D) (F : Nat) (p0 : Int32) (p1 : Int32) (r : Int32) (h : fX2_stonesIn F p0 p1 = some r) : MM l yX2_stonesIn (jW yX2_stonesIn cX2_stonesIn 4 (some .int)) ({ frames := 1, cells := 0, slots := 0, locals := 21 }) D [.int p0, .int p1] [] (some (.int r)) (oX2_stonesIn D  r) := by
  refine mn_of hpX2_stonesIn (Nat.le_of_ble_eq_true rfl) ?_
  intro X hXl C E0 hN
  subst hXl
  replace C : JC D X 4 RX2 cX2_stonesIn ({ frames := 1, cells := 0, slots := 0, locals := 21 }) := C
  have E : JE D X 0 0 (some .int) (fun _ : Unit => (some (.int r))) (fun _ : Unit => (oX2_stonesIn D  r)) := E0 0 0 rfl rfl
  clear E0 hN
  show JJ D X 4 0 0 0 [(0, .int p0), (1, .int p1)] [] []
  unfold fX2_stonesIn at h
  have L4 : ∀ (x1 : Int32) (x2 : Int32), lX2_stonesIn_4 F p0 p1  F x1 x2 = some r → JJ D X 4 0 0 4 [(0, .int p0), (1, .int p1), (2, .int x1), (3, .int x2)] [] [] := by
    intro x1 x2 h
    refine jl_ind2 (fun x1 x2 => JJ D X 4 0 0 4 [(0, .int p0), (1, .int p1), (2, .int x1), (3, .int x2)] [] []) ?_ F x1 x2 h
    clear h x1 x2
    intro k4 i4 x1 x2 h
    replace i4 : ∀ (x1 : Int32) (x2 : Int32), k4 x1 x2 = some r → JJ D X 4 0 0 4 [(0, .int p0), (1, .int p1), (2, .int x1), (3, .int x2)] [] [] := i4
    show JJ D X 4 0 0 4 [(0, .int p0), (1, .int p1), (2, .int x1), (3, .int x2)] [] []
    unfold bX2_stonesIn_4 at h
    have L29 : ∀ (x5 : Int32) (s6 : Int32) (s7 : Int32), fX2_stonesIn_29 F p0 p1 k4 x5 s6 s7 = some r → JJ D X 4 0 0 29 [(0, .int p0), (1, .int p1), (3, .int x5)] [.int s6, .int s7] [] := by
      intro x5 s6 s7 h
      unfold fX2_stonesIn_29 at h
      refine j_ior C dX2_stonesIn_29 ?_
      refine j_istore_n C dX2_stonesIn_30 rfl (lv' := fun v10 => [(2, .int v10), (0, .int p0), (1, .int p1), (3, .int x5)]) (by decide) (fun _ => rfl) h (fun v10 h => ?_)
      refine j_iinc C dX2_stonesIn_31 3 rfl (lv' := fun v11 => [(3, .int v11), (2, .int v10), (0, .int p0), (1, .int p1)]) (by decide) (fun _ => rfl) h (fun v11 h => ?_)
      refine j_goto C dX2_stonesIn_34 (tgt := 4) (by decide) ?_
      refine j_sub (lv' := [(0, .int p0), (1, .int p1), (2, .int v10), (3, .int v11)]) [2, 3, 1, 0] rfl ?_
      exact i4 v10 v11 h
    refine j_iload_n C dX2_stonesIn_4 rfl 3 rfl ?_
    refine j_iconst C dX2_stonesIn_5 (v := (3 : Int32)) (by decide) ?_
    refine j_icmp_gt C (tgt := 37) dX2_stonesIn_6 (by decide) h (fun c3 h => ?_) (fun c3 h => ?_)
    · refine j_iload_n C dX2_stonesIn_37 rfl 2 rfl ?_
      exact j_iretR C (r := r) (rtf := fun r => (some (.int r))) (wff := fun r => (oX2_stonesIn D  r)) E h rfl rfl dX2_stonesIn_38
    · refine j_iload_n C dX2_stonesIn_9 rfl 2 rfl ?_
      refine j_iload_n C dX2_stonesIn_10 rfl 1 rfl ?_
      refine j_iload_n C dX2_stonesIn_11 rfl 3 rfl ?_
      refine j_iconst C dX2_stonesIn_12 (v := (1 : Int32)) (by decide) ?_
      refine j_isub C dX2_stonesIn_13 ?_
      refine j_ishr C dX2_stonesIn_14 ?_
      refine j_iconst C dX2_stonesIn_15 (v := (1 : Int32)) (by decide) ?_
      refine j_iand C dX2_stonesIn_16 ?_
      refine j_if_eq C (tgt := 28) dX2_stonesIn_17 (by decide) h (fun c4 h => ?_) (fun c4 h => ?_)
      · refine j_iconst C dX2_stonesIn_28 (v := (0 : Int32)) (by decide) ?_
        refine j_sub (lv' := [(0, .int p0), (1, .int p1), (3, .int x2)]) [0, 1, 3] rfl ?_
        exact L29 x2 ((0 : Int32)) x1 h
      · refine j_iload_n C dX2_stonesIn_20 rfl 0 rfl ?_
        refine j_iload_n C dX2_stonesIn_21 rfl 3 rfl ?_
        obtain ⟨r8, q9, h⟩ := jl_bind h
        refine j_cS1 C (mX3_stonesWith (jlaunch X) D p0 x2 r8 q9) bmX2_46 btX3_stonesWith bzX3 bcX3_stonesWith hX3_stonesWith (rest := [.int x1]) rfl (jroom_of rfl) [] [] [] (wr := []) (ws2 := []) rfl rfl rfl rfl rfl (Nat.le_of_ble_eq_true rfl) dX2_stonesIn_22 ?_
        refine j_goto C dX2_stonesIn_25 (tgt := 29) (by decide) ?_
        refine j_sub (lv' := [(0, .int p0), (1, .int p1), (3, .int x2)]) [0, 1, 3] rfl ?_
        exact L29 x2 r8 x1 h
  refine j_iconst C dX2_stonesIn_0 (v := (0 : Int32)) (by decide) ?_
  refine j_istore_nC C dX2_stonesIn_1 rfl (lv' := [(2, .int ((0 : Int32))), (0, .int p0), (1, .int p1)]) (by decide) rfl ?_
  refine j_iconst C dX2_stonesIn_2 (v := (1 : Int32)) (by decide) ?_
  refine j_istore_nC C dX2_stonesIn_3 rfl (lv' := [(3, .int ((1 : Int32))), (2, .int ((0 : Int32))), (0, .int p0), (1, .int p1)]) (by decide) rfl ?_
  refine j_sub (lv' := [(0, .int p0), (1, .int p1), (2, .int ((0 : Int32))), (3, .int ((1 : Int32)))]) [2, 3, 1, 0] rfl ?_
  exact L4 ((0 : Int32)) ((1 : Int32)) h
theorem dX2_byEither_0 : decode cX2_byEither 0 = .ok (.iload_n 1, 1) := by decide +kernel
theorem dX2_byEither_1 : decode cX2_byEither 1 = .ok (.aload_n 0, 1) := by decide +kernel
theorem dX2_byEither_2 : decode cX2_byEither 2 = .ok (.iconst 0, 1) := by decide +kernel
theorem dX2_byEither_3 : decode cX2_byEither 3 = .ok (.invokevirtual 38, 3) := by decide +kernel
theorem dX2_byEither_6 : decode cX2_byEither 6 = .ok (.aload_n 0, 1) := by decide +kernel
theorem dX2_byEither_7 : decode cX2_byEither 7 = .ok (.iconst 1, 1) := by decide +kernel
theorem dX2_byEither_8 : decode cX2_byEither 8 = .ok (.invokevirtual 38, 3) := by decide +kernel
theorem dX2_byEither_11 : decode cX2_byEither 11 = .ok (.iand, 1) := by decide +kernel
theorem dX2_byEither_12 : decode cX2_byEither 12 = .ok (.invokestatic 43, 3) := by decide +kernel
theorem dX2_byEither_15 : decode cX2_byEither 15 = .ok (.ireturn, 1) := by decide +kernel
def fX2_byEither (F : Nat) (a0_paints : Int32) (a0_paintsOf0 : Int32) (a0_paintsOf1 : Int32) (p1 : Int32) : Option (Int32) :=
((fX3_paintsOf a0_paints a0_paintsOf0 a0_paintsOf1 ((0 : Int32))).bind fun r1 =>
((fX3_paintsOf a0_paints a0_paintsOf0 a0_paintsOf1 ((1 : Int32))).bind fun r3 =>
((fX2_stonesIn F p1 (r1 &&& r3)).bind fun r5 =>
(some (r5)))))
def oX2_byEither (D : jv_D) (h_a0 : Nat) (h_a0_ruledOut : Nat) (a0_rows : Int32) (a0_columns : Int32) (a0_paints : Int32) (a0_apart : Int32) (a0_paintsOf0 : Int32) (a0_paintsOf1 : Int32) (a0_old : Int32) (a0_shut : Int32) (a0_all : Int32) (a0_firstColumn : Int32) (a0_fitsAtFirst : Int32) (a0_paintingsOf0 : Int32) (a0_paintingsOf1 : Int32) (r : Int32) : va_W := [(h_a0, .inr (2, [.int a0_rows, .int a0_columns, .int a0_paints, .int a0_apart, .int a0_paintsOf0, .int a0_paintsOf1, .int a0_old, .int a0_shut, .int a0_all, .int a0_firstColumn, .int a0_fitsAtFirst, .int a0_paintingsOf0, .int a0_paintingsOf1, .ref h_a0_ruledOut]))]
set_option maxHeartbeats 40000000 in
set_option maxRecDepth 100000 in
theorem mX2_byEither (l : Launch) (D : jv_D) (F : Nat) (h_a0 : Nat) (h_a0_ruledOut : Nat) (a0_rows : Int32) (a0_columns : Int32) (a0_paints : Int32) (a0_apart : Int32) (a0_paintsOf0 : Int32) (a0_paintsOf1 : Int32) (a0_old : Int32) (a0_shut : Int32) (a0_all : Int32) (a0_firstColumn : Int32) (a0_fitsAtFirst : Int32) (a0_paintingsOf0 : Int32) (a0_paintingsOf1 : Int32) (p1 : Int32) (r : Int32) (h : fX2_byEither F a0_paints a0_paintsOf0 a0_paintsOf1 p1 = some r) : MM l yX2_byEither (jW yX2_byEither cX2_byEither 2 (some .int)) ({ frames := 2, cells := 0, slots := 0, locals := 44 }) D [.ref h_a0, .int p1] [(h_a0, .inr (2, [.int a0_rows, .int a0_columns, .int a0_paints, .int a0_apart, .int a0_paintsOf0, .int a0_paintsOf1, .int a0_old, .int a0_shut, .int a0_all, .int a0_firstColumn, .int a0_fitsAtFirst, .int a0_paintingsOf0, .int a0_paintingsOf1, .ref h_a0_ruledOut]))] (some (.int r)) (oX2_byEither D h_a0 h_a0_ruledOut a0_rows a0_columns a0_paints a0_apart a0_paintsOf0 a0_paintsOf1 a0_old a0_shut a0_all a0_firstColumn a0_fitsAtFirst a0_paintingsOf0 a0_paintingsOf1 r) := by
  refine mn_of hpX2_byEither (Nat.le_of_ble_eq_true rfl) ?_
  intro X hXl C E0 hN
  subst hXl
  replace C : JC D X 2 RX2 cX2_byEither ({ frames := 2, cells := 0, slots := 0, locals := 44 }) := C
  have E : JE D X 0 0 (some .int) (fun _ : Unit => (some (.int r))) (fun _ : Unit => (oX2_byEither D h_a0 h_a0_ruledOut a0_rows a0_columns a0_paints a0_apart a0_paintsOf0 a0_paintsOf1 a0_old a0_shut a0_all a0_firstColumn a0_fitsAtFirst a0_paintingsOf0 a0_paintingsOf1 r)) := E0 0 0 rfl rfl
  clear E0 hN
  show JJ D X 2 0 0 0 [(0, .ref h_a0), (1, .int p1)] [] [(h_a0, .inr (2, [.int a0_rows, .int a0_columns, .int a0_paints, .int a0_apart, .int a0_paintsOf0, .int a0_paintsOf1, .int a0_old, .int a0_shut, .int a0_all, .int a0_firstColumn, .int a0_fitsAtFirst, .int a0_paintingsOf0, .int a0_paintingsOf1, .ref h_a0_ruledOut]))]
  unfold fX2_byEither at h
  refine j_iload_n C dX2_byEither_0 rfl 1 rfl ?_
  refine j_aload_n C dX2_byEither_1 rfl 0 rfl ?_
  refine j_iconst C dX2_byEither_2 (v := (0 : Int32)) (by decide) ?_
  obtain ⟨r1, q2, h⟩ := jl_bind h
  refine j_cV1 C (mX3_paintsOf (jlaunch X) D h_a0 h_a0_ruledOut a0_rows a0_columns a0_paints a0_apart a0_paintsOf0 a0_paintsOf1 a0_old a0_shut a0_all a0_firstColumn a0_fitsAtFirst a0_paintingsOf0 a0_paintingsOf1 ((0 : Int32)) r1 q2) bmX2_38 biX3_paintsOf bsX3_paintsOf bzX3 bcX3_paintsOf rfl hX3_paintsOf (rest := [.int p1]) rfl (jroom_of rfl) 0 (ci := 2) rfl rfl rfl [0] [] [0] (wr := []) (ws2 := [(h_a0, .inr (2, [.int a0_rows, .int a0_columns, .int a0_paints, .int a0_apart, .int a0_paintsOf0, .int a0_paintsOf1, .int a0_old, .int a0_shut, .int a0_all, .int a0_firstColumn, .int a0_fitsAtFirst, .int a0_paintingsOf0, .int a0_paintingsOf1, .ref h_a0_ruledOut]))]) rfl rfl rfl rfl rfl (Nat.le_of_ble_eq_true rfl) dX2_byEither_3 ?_
  refine j_aload_n C dX2_byEither_6 rfl 0 rfl ?_
  refine j_iconst C dX2_byEither_7 (v := (1 : Int32)) (by decide) ?_
  obtain ⟨r3, q4, h⟩ := jl_bind h
  refine j_cV1 C (mX3_paintsOf (jlaunch X) D h_a0 h_a0_ruledOut a0_rows a0_columns a0_paints a0_apart a0_paintsOf0 a0_paintsOf1 a0_old a0_shut a0_all a0_firstColumn a0_fitsAtFirst a0_paintingsOf0 a0_paintingsOf1 ((1 : Int32)) r3 q4) bmX2_38 biX3_paintsOf bsX3_paintsOf bzX3 bcX3_paintsOf rfl hX3_paintsOf (rest := [.int r1, .int p1]) rfl (jroom_of rfl) 0 (ci := 2) rfl rfl rfl [0] [] [0] (wr := []) (ws2 := [(h_a0, .inr (2, [.int a0_rows, .int a0_columns, .int a0_paints, .int a0_apart, .int a0_paintsOf0, .int a0_paintsOf1, .int a0_old, .int a0_shut, .int a0_all, .int a0_firstColumn, .int a0_fitsAtFirst, .int a0_paintingsOf0, .int a0_paintingsOf1, .ref h_a0_ruledOut]))]) rfl rfl rfl rfl rfl (Nat.le_of_ble_eq_true rfl) dX2_byEither_8 ?_
  refine j_iand C dX2_byEither_11 ?_
  obtain ⟨r5, q6, h⟩ := jl_bind h
  refine j_cS1 C (mX2_stonesIn (jlaunch X) D F p1 (r1 &&& r3) r5 q6) bmX2_43 btX2_stonesIn bzX2 bcX2_stonesIn hX2_stonesIn (rest := []) rfl (jroom_of rfl) [] [0] [0] (wr := [(h_a0, .inr (2, [.int a0_rows, .int a0_columns, .int a0_paints, .int a0_apart, .int a0_paintsOf0, .int a0_paintsOf1, .int a0_old, .int a0_shut, .int a0_all, .int a0_firstColumn, .int a0_fitsAtFirst, .int a0_paintingsOf0, .int a0_paintingsOf1, .ref h_a0_ruledOut]))]) (ws2 := [(h_a0, .inr (2, [.int a0_rows, .int a0_columns, .int a0_paints, .int a0_apart, .int a0_paintsOf0, .int a0_paintsOf1, .int a0_old, .int a0_shut, .int a0_all, .int a0_firstColumn, .int a0_fitsAtFirst, .int a0_paintingsOf0, .int a0_paintingsOf1, .ref h_a0_ruledOut]))]) rfl rfl rfl rfl rfl (Nat.le_of_ble_eq_true rfl) dX2_byEither_12 ?_
  exact j_iretR C (r := r) (rtf := fun r => (some (.int r))) (wff := fun r => (oX2_byEither D h_a0 h_a0_ruledOut a0_rows a0_columns a0_paints a0_apart a0_paintsOf0 a0_paintsOf1 a0_old a0_shut a0_all a0_firstColumn a0_fitsAtFirst a0_paintingsOf0 a0_paintingsOf1 r)) E h rfl rfl dX2_byEither_15
theorem dX2_byOneAlone_0 : decode cX2_byOneAlone 0 = .ok (.iload_n 1, 1) := by decide +kernel
theorem dX2_byOneAlone_1 : decode cX2_byOneAlone 1 = .ok (.aload_n 0, 1) := by decide +kernel
theorem dX2_byOneAlone_2 : decode cX2_byOneAlone 2 = .ok (.iload_n 2, 1) := by decide +kernel
theorem dX2_byOneAlone_3 : decode cX2_byOneAlone 3 = .ok (.invokevirtual 38, 3) := by decide +kernel
theorem dX2_byOneAlone_6 : decode cX2_byOneAlone 6 = .ok (.aload_n 0, 1) := by decide +kernel
theorem dX2_byOneAlone_7 : decode cX2_byOneAlone 7 = .ok (.iconst 1, 1) := by decide +kernel
theorem dX2_byOneAlone_8 : decode cX2_byOneAlone 8 = .ok (.iload_n 2, 1) := by decide +kernel
theorem dX2_byOneAlone_9 : decode cX2_byOneAlone 9 = .ok (.isub, 1) := by decide +kernel
theorem dX2_byOneAlone_10 : decode cX2_byOneAlone 10 = .ok (.invokevirtual 38, 3) := by decide +kernel
theorem dX2_byOneAlone_13 : decode cX2_byOneAlone 13 = .ok (.iconst (-1), 1) := by decide +kernel
theorem dX2_byOneAlone_14 : decode cX2_byOneAlone 14 = .ok (.ixor, 1) := by decide +kernel
theorem dX2_byOneAlone_15 : decode cX2_byOneAlone 15 = .ok (.iand, 1) := by decide +kernel
theorem dX2_byOneAlone_16 : decode cX2_byOneAlone 16 = .ok (.invokestatic 43, 3) := by decide +kernel
theorem dX2_byOneAlone_19 : decode cX2_byOneAlone 19 = .ok (.ireturn, 1) := by decide +kernel
def fX2_byOneAlone (F : Nat) (a0_paints : Int32) (a0_paintsOf0 : Int32) (a0_paintsOf1 : Int32) (p1 : Int32) (p2 : Int32) : Option (Int32) :=
((fX3_paintsOf a0_paints a0_paintsOf0 a0_paintsOf1 p2).bind fun r1 =>
((fX3_paintsOf a0_paints a0_paintsOf0 a0_paintsOf1 (((1 : Int32)) - p2)).bind fun r3 =>
((fX2_stonesIn F p1 (r1 &&& (r3 ^^^ ((-1 : Int32))))).bind fun r5 =>
(some (r5)))))
def oX2_byOneAlone (D : jv_D) (h_a0 : Nat) (h_a0_ruledOut : Nat) (a0_rows : Int32) (a0_columns : Int32) (a0_paints : Int32) (a0_apart : Int32) (a0_paintsOf0 : Int32) (a0_paintsOf1 : Int32) (a0_old : Int32) (a0_shut : Int32) (a0_all : Int32) (a0_firstColumn : Int32) (a0_fitsAtFirst : Int32) (a0_paintingsOf0 : Int32) (a0_paintingsOf1 : Int32) (r : Int32) : va_W := [(h_a0, .inr (2, [.int a0_rows, .int a0_columns, .int a0_paints, .int a0_apart, .int a0_paintsOf0, .int a0_paintsOf1, .int a0_old, .int a0_shut, .int a0_all, .int a0_firstColumn, .int a0_fitsAtFirst, .int a0_paintingsOf0, .int a0_paintingsOf1, .ref h_a0_ruledOut]))]
set_option maxHeartbeats 40000000 in
set_option maxRecDepth 100000 in
theorem mX2_byOneAlone (l : Launch) (D : jv_D) (F : Nat) (h_a0 : Nat) (h_a0_ruledOut : Nat) (a0_rows : Int32) (a0_columns : Int32) (a0_paints : Int32) (a0_apart : Int32) (a0_paintsOf0 : Int32) (a0_paintsOf1 : Int32) (a0_old : Int32) (a0_shut : Int32) (a0_all : Int32) (a0_firstColumn : Int32) (a0_fitsAtFirst : Int32) (a0_paintingsOf0 : Int32) (a0_paintingsOf1 : Int32) (p1 : Int32) (p2 : Int32) (r : Int32) (h : fX2_byOneAlone F a0_paints a0_paintsOf0 a0_paintsOf1 p1 p2 = some r) : MM l yX2_byOneAlone (jW yX2_byOneAlone cX2_byOneAlone 3 (some .int)) ({ frames := 2, cells := 0, slots := 0, locals := 44 }) D [.ref h_a0, .int p1, .int p2] [(h_a0, .inr (2, [.int a0_rows, .int a0_columns, .int a0_paints, .int a0_apart, .int a0_paintsOf0, .int a0_paintsOf1, .int a0_old, .int a0_shut, .int a0_all, .int a0_firstColumn, .int a0_fitsAtFirst, .int a0_paintingsOf0, .int a0_paintingsOf1, .ref h_a0_ruledOut]))] (some (.int r)) (oX2_byOneAlone D h_a0 h_a0_ruledOut a0_rows a0_columns a0_paints a0_apart a0_paintsOf0 a0_paintsOf1 a0_old a0_shut a0_all a0_firstColumn a0_fitsAtFirst a0_paintingsOf0 a0_paintingsOf1 r) := by
  refine mn_of hpX2_byOneAlone (Nat.le_of_ble_eq_true rfl) ?_
  intro X hXl C E0 hN
  subst hXl
  replace C : JC D X 3 RX2 cX2_byOneAlone ({ frames := 2, cells := 0, slots := 0, locals := 44 }) := C
  have E : JE D X 0 0 (some .int) (fun _ : Unit => (some (.int r))) (fun _ : Unit => (oX2_byOneAlone D h_a0 h_a0_ruledOut a0_rows a0_columns a0_paints a0_apart a0_paintsOf0 a0_paintsOf1 a0_old a0_shut a0_all a0_firstColumn a0_fitsAtFirst a0_paintingsOf0 a0_paintingsOf1 r)) := E0 0 0 rfl rfl
  clear E0 hN
  show JJ D X 3 0 0 0 [(0, .ref h_a0), (1, .int p1), (2, .int p2)] [] [(h_a0, .inr (2, [.int a0_rows, .int a0_columns, .int a0_paints, .int a0_apart, .int a0_paintsOf0, .int a0_paintsOf1, .int a0_old, .int a0_shut, .int a0_all, .int a0_firstColumn, .int a0_fitsAtFirst, .int a0_paintingsOf0, .int a0_paintingsOf1, .ref h_a0_ruledOut]))]
  unfold fX2_byOneAlone at h
  refine j_iload_n C dX2_byOneAlone_0 rfl 1 rfl ?_
  refine j_aload_n C dX2_byOneAlone_1 rfl 0 rfl ?_
  refine j_iload_n C dX2_byOneAlone_2 rfl 2 rfl ?_
  obtain ⟨r1, q2, h⟩ := jl_bind h
  refine j_cV1 C (mX3_paintsOf (jlaunch X) D h_a0 h_a0_ruledOut a0_rows a0_columns a0_paints a0_apart a0_paintsOf0 a0_paintsOf1 a0_old a0_shut a0_all a0_firstColumn a0_fitsAtFirst a0_paintingsOf0 a0_paintingsOf1 p2 r1 q2) bmX2_38 biX3_paintsOf bsX3_paintsOf bzX3 bcX3_paintsOf rfl hX3_paintsOf (rest := [.int p1]) rfl (jroom_of rfl) 0 (ci := 2) rfl rfl rfl [0] [] [0] (wr := []) (ws2 := [(h_a0, .inr (2, [.int a0_rows, .int a0_columns, .int a0_paints, .int a0_apart, .int a0_paintsOf0, .int a0_paintsOf1, .int a0_old, .int a0_shut, .int a0_all, .int a0_firstColumn, .int a0_fitsAtFirst, .int a0_paintingsOf0, .int a0_paintingsOf1, .ref h_a0_ruledOut]))]) rfl rfl rfl rfl rfl (Nat.le_of_ble_eq_true rfl) dX2_byOneAlone_3 ?_
  refine j_aload_n C dX2_byOneAlone_6 rfl 0 rfl ?_
  refine j_iconst C dX2_byOneAlone_7 (v := (1 : Int32)) (by decide) ?_
  refine j_iload_n C dX2_byOneAlone_8 rfl 2 rfl ?_
  refine j_isub C dX2_byOneAlone_9 ?_
  obtain ⟨r3, q4, h⟩ := jl_bind h
  refine j_cV1 C (mX3_paintsOf (jlaunch X) D h_a0 h_a0_ruledOut a0_rows a0_columns a0_paints a0_apart a0_paintsOf0 a0_paintsOf1 a0_old a0_shut a0_all a0_firstColumn a0_fitsAtFirst a0_paintingsOf0 a0_paintingsOf1 (((1 : Int32)) - p2) r3 q4) bmX2_38 biX3_paintsOf bsX3_paintsOf bzX3 bcX3_paintsOf rfl hX3_paintsOf (rest := [.int r1, .int p1]) rfl (jroom_of rfl) 0 (ci := 2) rfl rfl rfl [0] [] [0] (wr := []) (ws2 := [(h_a0, .inr (2, [.int a0_rows, .int a0_columns, .int a0_paints, .int a0_apart, .int a0_paintsOf0, .int a0_paintsOf1, .int a0_old, .int a0_shut, .int a0_all, .int a0_firstColumn, .int a0_fitsAtFirst, .int a0_paintingsOf0, .int a0_paintingsOf1, .ref h_a0_ruledOut]))]) rfl rfl rfl rfl rfl (Nat.le_of_ble_eq_true rfl) dX2_byOneAlone_10 ?_
  refine j_iconst C dX2_byOneAlone_13 (v := (-1 : Int32)) (by decide) ?_
  refine j_ixor C dX2_byOneAlone_14 ?_
  refine j_iand C dX2_byOneAlone_15 ?_
  obtain ⟨r5, q6, h⟩ := jl_bind h
  refine j_cS1 C (mX2_stonesIn (jlaunch X) D F p1 (r1 &&& (r3 ^^^ ((-1 : Int32)))) r5 q6) bmX2_43 btX2_stonesIn bzX2 bcX2_stonesIn hX2_stonesIn (rest := []) rfl (jroom_of rfl) [] [0] [0] (wr := [(h_a0, .inr (2, [.int a0_rows, .int a0_columns, .int a0_paints, .int a0_apart, .int a0_paintsOf0, .int a0_paintsOf1, .int a0_old, .int a0_shut, .int a0_all, .int a0_firstColumn, .int a0_fitsAtFirst, .int a0_paintingsOf0, .int a0_paintingsOf1, .ref h_a0_ruledOut]))]) (ws2 := [(h_a0, .inr (2, [.int a0_rows, .int a0_columns, .int a0_paints, .int a0_apart, .int a0_paintsOf0, .int a0_paintsOf1, .int a0_old, .int a0_shut, .int a0_all, .int a0_firstColumn, .int a0_fitsAtFirst, .int a0_paintingsOf0, .int a0_paintingsOf1, .ref h_a0_ruledOut]))]) rfl rfl rfl rfl rfl (Nat.le_of_ble_eq_true rfl) dX2_byOneAlone_16 ?_
  exact j_iretR C (r := r) (rtf := fun r => (some (.int r))) (wff := fun r => (oX2_byOneAlone D h_a0 h_a0_ruledOut a0_rows a0_columns a0_paints a0_apart a0_paintsOf0 a0_paintsOf1 a0_old a0_shut a0_all a0_firstColumn a0_fitsAtFirst a0_paintingsOf0 a0_paintingsOf1 r)) E h rfl rfl dX2_byOneAlone_19
theorem dX2_byNeither_0 : decode cX2_byNeither 0 = .ok (.iload_n 1, 1) := by decide +kernel
theorem dX2_byNeither_1 : decode cX2_byNeither 1 = .ok (.aload_n 0, 1) := by decide +kernel
theorem dX2_byNeither_2 : decode cX2_byNeither 2 = .ok (.iconst 0, 1) := by decide +kernel
theorem dX2_byNeither_3 : decode cX2_byNeither 3 = .ok (.invokevirtual 38, 3) := by decide +kernel
theorem dX2_byNeither_6 : decode cX2_byNeither 6 = .ok (.iconst (-1), 1) := by decide +kernel
theorem dX2_byNeither_7 : decode cX2_byNeither 7 = .ok (.ixor, 1) := by decide +kernel
theorem dX2_byNeither_8 : decode cX2_byNeither 8 = .ok (.aload_n 0, 1) := by decide +kernel
theorem dX2_byNeither_9 : decode cX2_byNeither 9 = .ok (.iconst 1, 1) := by decide +kernel
theorem dX2_byNeither_10 : decode cX2_byNeither 10 = .ok (.invokevirtual 38, 3) := by decide +kernel
theorem dX2_byNeither_13 : decode cX2_byNeither 13 = .ok (.iconst (-1), 1) := by decide +kernel
theorem dX2_byNeither_14 : decode cX2_byNeither 14 = .ok (.ixor, 1) := by decide +kernel
theorem dX2_byNeither_15 : decode cX2_byNeither 15 = .ok (.iand, 1) := by decide +kernel
theorem dX2_byNeither_16 : decode cX2_byNeither 16 = .ok (.invokestatic 43, 3) := by decide +kernel
theorem dX2_byNeither_19 : decode cX2_byNeither 19 = .ok (.ireturn, 1) := by decide +kernel
def fX2_byNeither (F : Nat) (a0_paints : Int32) (a0_paintsOf0 : Int32) (a0_paintsOf1 : Int32) (p1 : Int32) : Option (Int32) :=
((fX3_paintsOf a0_paints a0_paintsOf0 a0_paintsOf1 ((0 : Int32))).bind fun r1 =>
((fX3_paintsOf a0_paints a0_paintsOf0 a0_paintsOf1 ((1 : Int32))).bind fun r3 =>
((fX2_stonesIn F p1 ((r1 ^^^ ((-1 : Int32))) &&& (r3 ^^^ ((-1 : Int32))))).bind fun r5 =>
(some (r5)))))
def oX2_byNeither (D : jv_D) (h_a0 : Nat) (h_a0_ruledOut : Nat) (a0_rows : Int32) (a0_columns : Int32) (a0_paints : Int32) (a0_apart : Int32) (a0_paintsOf0 : Int32) (a0_paintsOf1 : Int32) (a0_old : Int32) (a0_shut : Int32) (a0_all : Int32) (a0_firstColumn : Int32) (a0_fitsAtFirst : Int32) (a0_paintingsOf0 : Int32) (a0_paintingsOf1 : Int32) (r : Int32) : va_W := [(h_a0, .inr (2, [.int a0_rows, .int a0_columns, .int a0_paints, .int a0_apart, .int a0_paintsOf0, .int a0_paintsOf1, .int a0_old, .int a0_shut, .int a0_all, .int a0_firstColumn, .int a0_fitsAtFirst, .int a0_paintingsOf0, .int a0_paintingsOf1, .ref h_a0_ruledOut]))]
set_option maxHeartbeats 40000000 in
set_option maxRecDepth 100000 in
theorem mX2_byNeither (l : Launch) (D : jv_D) (F : Nat) (h_a0 : Nat) (h_a0_ruledOut : Nat) (a0_rows : Int32) (a0_columns : Int32) (a0_paints : Int32) (a0_apart : Int32) (a0_paintsOf0 : Int32) (a0_paintsOf1 : Int32) (a0_old : Int32) (a0_shut : Int32) (a0_all : Int32) (a0_firstColumn : Int32) (a0_fitsAtFirst : Int32) (a0_paintingsOf0 : Int32) (a0_paintingsOf1 : Int32) (p1 : Int32) (r : Int32) (h : fX2_byNeither F a0_paints a0_paintsOf0 a0_paintsOf1 p1 = some r) : MM l yX2_byNeither (jW yX2_byNeither cX2_byNeither 2 (some .int)) ({ frames := 2, cells := 0, slots := 0, locals := 44 }) D [.ref h_a0, .int p1] [(h_a0, .inr (2, [.int a0_rows, .int a0_columns, .int a0_paints, .int a0_apart, .int a0_paintsOf0, .int a0_paintsOf1, .int a0_old, .int a0_shut, .int a0_all, .int a0_firstColumn, .int a0_fitsAtFirst, .int a0_paintingsOf0, .int a0_paintingsOf1, .ref h_a0_ruledOut]))] (some (.int r)) (oX2_byNeither D h_a0 h_a0_ruledOut a0_rows a0_columns a0_paints a0_apart a0_paintsOf0 a0_paintsOf1 a0_old a0_shut a0_all a0_firstColumn a0_fitsAtFirst a0_paintingsOf0 a0_paintingsOf1 r) := by
  refine mn_of hpX2_byNeither (Nat.le_of_ble_eq_true rfl) ?_
  intro X hXl C E0 hN
  subst hXl
  replace C : JC D X 2 RX2 cX2_byNeither ({ frames := 2, cells := 0, slots := 0, locals := 44 }) := C
  have E : JE D X 0 0 (some .int) (fun _ : Unit => (some (.int r))) (fun _ : Unit => (oX2_byNeither D h_a0 h_a0_ruledOut a0_rows a0_columns a0_paints a0_apart a0_paintsOf0 a0_paintsOf1 a0_old a0_shut a0_all a0_firstColumn a0_fitsAtFirst a0_paintingsOf0 a0_paintingsOf1 r)) := E0 0 0 rfl rfl
  clear E0 hN
  show JJ D X 2 0 0 0 [(0, .ref h_a0), (1, .int p1)] [] [(h_a0, .inr (2, [.int a0_rows, .int a0_columns, .int a0_paints, .int a0_apart, .int a0_paintsOf0, .int a0_paintsOf1, .int a0_old, .int a0_shut, .int a0_all, .int a0_firstColumn, .int a0_fitsAtFirst, .int a0_paintingsOf0, .int a0_paintingsOf1, .ref h_a0_ruledOut]))]
  unfold fX2_byNeither at h
  refine j_iload_n C dX2_byNeither_0 rfl 1 rfl ?_
  refine j_aload_n C dX2_byNeither_1 rfl 0 rfl ?_
  refine j_iconst C dX2_byNeither_2 (v := (0 : Int32)) (by decide) ?_
  obtain ⟨r1, q2, h⟩ := jl_bind h
  refine j_cV1 C (mX3_paintsOf (jlaunch X) D h_a0 h_a0_ruledOut a0_rows a0_columns a0_paints a0_apart a0_paintsOf0 a0_paintsOf1 a0_old a0_shut a0_all a0_firstColumn a0_fitsAtFirst a0_paintingsOf0 a0_paintingsOf1 ((0 : Int32)) r1 q2) bmX2_38 biX3_paintsOf bsX3_paintsOf bzX3 bcX3_paintsOf rfl hX3_paintsOf (rest := [.int p1]) rfl (jroom_of rfl) 0 (ci := 2) rfl rfl rfl [0] [] [0] (wr := []) (ws2 := [(h_a0, .inr (2, [.int a0_rows, .int a0_columns, .int a0_paints, .int a0_apart, .int a0_paintsOf0, .int a0_paintsOf1, .int a0_old, .int a0_shut, .int a0_all, .int a0_firstColumn, .int a0_fitsAtFirst, .int a0_paintingsOf0, .int a0_paintingsOf1, .ref h_a0_ruledOut]))]) rfl rfl rfl rfl rfl (Nat.le_of_ble_eq_true rfl) dX2_byNeither_3 ?_
  refine j_iconst C dX2_byNeither_6 (v := (-1 : Int32)) (by decide) ?_
  refine j_ixor C dX2_byNeither_7 ?_
  refine j_aload_n C dX2_byNeither_8 rfl 0 rfl ?_
  refine j_iconst C dX2_byNeither_9 (v := (1 : Int32)) (by decide) ?_
  obtain ⟨r3, q4, h⟩ := jl_bind h
  refine j_cV1 C (mX3_paintsOf (jlaunch X) D h_a0 h_a0_ruledOut a0_rows a0_columns a0_paints a0_apart a0_paintsOf0 a0_paintsOf1 a0_old a0_shut a0_all a0_firstColumn a0_fitsAtFirst a0_paintingsOf0 a0_paintingsOf1 ((1 : Int32)) r3 q4) bmX2_38 biX3_paintsOf bsX3_paintsOf bzX3 bcX3_paintsOf rfl hX3_paintsOf (rest := [.int (r1 ^^^ ((-1 : Int32))), .int p1]) rfl (jroom_of rfl) 0 (ci := 2) rfl rfl rfl [0] [] [0] (wr := []) (ws2 := [(h_a0, .inr (2, [.int a0_rows, .int a0_columns, .int a0_paints, .int a0_apart, .int a0_paintsOf0, .int a0_paintsOf1, .int a0_old, .int a0_shut, .int a0_all, .int a0_firstColumn, .int a0_fitsAtFirst, .int a0_paintingsOf0, .int a0_paintingsOf1, .ref h_a0_ruledOut]))]) rfl rfl rfl rfl rfl (Nat.le_of_ble_eq_true rfl) dX2_byNeither_10 ?_
  refine j_iconst C dX2_byNeither_13 (v := (-1 : Int32)) (by decide) ?_
  refine j_ixor C dX2_byNeither_14 ?_
  refine j_iand C dX2_byNeither_15 ?_
  obtain ⟨r5, q6, h⟩ := jl_bind h
  refine j_cS1 C (mX2_stonesIn (jlaunch X) D F p1 ((r1 ^^^ ((-1 : Int32))) &&& (r3 ^^^ ((-1 : Int32)))) r5 q6) bmX2_43 btX2_stonesIn bzX2 bcX2_stonesIn hX2_stonesIn (rest := []) rfl (jroom_of rfl) [] [0] [0] (wr := [(h_a0, .inr (2, [.int a0_rows, .int a0_columns, .int a0_paints, .int a0_apart, .int a0_paintsOf0, .int a0_paintsOf1, .int a0_old, .int a0_shut, .int a0_all, .int a0_firstColumn, .int a0_fitsAtFirst, .int a0_paintingsOf0, .int a0_paintingsOf1, .ref h_a0_ruledOut]))]) (ws2 := [(h_a0, .inr (2, [.int a0_rows, .int a0_columns, .int a0_paints, .int a0_apart, .int a0_paintsOf0, .int a0_paintsOf1, .int a0_old, .int a0_shut, .int a0_all, .int a0_firstColumn, .int a0_fitsAtFirst, .int a0_paintingsOf0, .int a0_paintingsOf1, .ref h_a0_ruledOut]))]) rfl rfl rfl rfl rfl (Nat.le_of_ble_eq_true rfl) dX2_byNeither_16 ?_
  exact j_iretR C (r := r) (rtf := fun r => (some (.int r))) (wff := fun r => (oX2_byNeither D h_a0 h_a0_ruledOut a0_rows a0_columns a0_paints a0_apart a0_paintsOf0 a0_paintsOf1 a0_old a0_shut a0_all a0_firstColumn a0_fitsAtFirst a0_paintingsOf0 a0_paintingsOf1 r)) E h rfl rfl dX2_byNeither_19
theorem dX2_choose_0 : decode cX2_choose 0 = .ok (.iconst 1, 1) := by decide +kernel
theorem dX2_choose_1 : decode cX2_choose 1 = .ok (.istore_n 2, 1) := by decide +kernel
theorem dX2_choose_2 : decode cX2_choose 2 = .ok (.iconst 0, 1) := by decide +kernel
theorem dX2_choose_3 : decode cX2_choose 3 = .ok (.istore_n 3, 1) := by decide +kernel
theorem dX2_choose_4 : decode cX2_choose 4 = .ok (.iload_n 3, 1) := by decide +kernel
theorem dX2_choose_5 : decode cX2_choose 5 = .ok (.iload_n 1, 1) := by decide +kernel
theorem dX2_choose_6 : decode cX2_choose 6 = .ok (.if_icmp .ge 25, 3) := by decide +kernel
theorem dX2_choose_9 : decode cX2_choose 9 = .ok (.iload_n 3, 1) := by decide +kernel
theorem dX2_choose_10 : decode cX2_choose 10 = .ok (.bipush 9, 2) := by decide +kernel
theorem dX2_choose_12 : decode cX2_choose 12 = .ok (.if_icmp .ge 19, 3) := by decide +kernel
theorem dX2_choose_15 : decode cX2_choose 15 = .ok (.iload_n 2, 1) := by decide +kernel
theorem dX2_choose_16 : decode cX2_choose 16 = .ok (.iload_n 0, 1) := by decide +kernel
theorem dX2_choose_17 : decode cX2_choose 17 = .ok (.iload_n 3, 1) := by decide +kernel
theorem dX2_choose_18 : decode cX2_choose 18 = .ok (.isub, 1) := by decide +kernel
theorem dX2_choose_19 : decode cX2_choose 19 = .ok (.imul, 1) := by decide +kernel
theorem dX2_choose_20 : decode cX2_choose 20 = .ok (.iload_n 3, 1) := by decide +kernel
theorem dX2_choose_21 : decode cX2_choose 21 = .ok (.iconst 1, 1) := by decide +kernel
theorem dX2_choose_22 : decode cX2_choose 22 = .ok (.iadd, 1) := by decide +kernel
theorem dX2_choose_23 : decode cX2_choose 23 = .ok (.idiv, 1) := by decide +kernel
theorem dX2_choose_24 : decode cX2_choose 24 = .ok (.istore_n 2, 1) := by decide +kernel
theorem dX2_choose_25 : decode cX2_choose 25 = .ok (.iinc 3 1, 3) := by decide +kernel
theorem dX2_choose_28 : decode cX2_choose 28 = .ok (.goto (-24), 3) := by decide +kernel
theorem dX2_choose_31 : decode cX2_choose 31 = .ok (.iload_n 2, 1) := by decide +kernel
theorem dX2_choose_32 : decode cX2_choose 32 = .ok (.ireturn, 1) := by decide +kernel
def bX2_choose_4 (F : Nat) (p0 : Int32) (p1 : Int32)  (k4 : Int32 → Int32 → Option (Int32)) (x1 : Int32) (x2 : Int32) : Option (Int32) :=
(if p1 ≤ x2 then
(some (x1))
else
(if ((9 : Int32)) ≤ x2 then
(some (x1))
else
(if (x2 + ((1 : Int32))) = 0 then none else
(jl_let ((x1 * (p0 - x2)) / (x2 + ((1 : Int32)))) fun v6 =>
(jl_let (x2 + Int32.ofInt (1)) fun v7 =>
(k4 v6 v7))))))
def lX2_choose_4 (F : Nat) (p0 : Int32) (p1 : Int32)  (F2 : Nat) (x1 : Int32) (x2 : Int32) : Option (Int32) := jl_loop2 (bX2_choose_4 F p0 p1 ) F2 x1 x2
def fX2_choose (F : Nat) (p0 : Int32) (p1 : Int32) : Option (Int32) :=
(lX2_choose_4 F p0 p1 F ((1 : Int32)) ((0 : Int32)))
def oX2_choose (D : jv_D)  (r : Int32) : va_W := []
set_option maxHeartbeats 40000000 in
set_option maxRecDepth 100000 in
theorem mX2_choose (l : Launch) (D : jv_D) (F : Nat) (p0 : Int32) (p1 : Int32) (r : Int32) (h : fX2_choose F p0 p1 = some r) : MM l yX2_choose (jW yX2_choose cX2_choose 4 (some .int)) ({ frames := 0, cells := 0, slots := 0, locals := 0 }) D [.int p0, .int p1] [] (some (.int r)) (oX2_choose D  r) := by
  refine mn_of hpX2_choose (Nat.le_of_ble_eq_true rfl) ?_
  intro X hXl C E0 hN
  subst hXl
  replace C : JC D X 4 RX2 cX2_choose ({ frames := 0, cells := 0, slots := 0, locals := 0 }) := C
  have E : JE D X 0 0 (some .int) (fun _ : Unit => (some (.int r))) (fun _ : Unit => (oX2_choose D  r)) := E0 0 0 rfl rfl
  clear E0 hN
  show JJ D X 4 0 0 0 [(0, .int p0), (1, .int p1)] [] []
  unfold fX2_choose at h
  have L4 : ∀ (x1 : Int32) (x2 : Int32), lX2_choose_4 F p0 p1  F x1 x2 = some r → JJ D X 4 0 0 4 [(0, .int p0), (1, .int p1), (2, .int x1), (3, .int x2)] [] [] := by
    intro x1 x2 h
    refine jl_ind2 (fun x1 x2 => JJ D X 4 0 0 4 [(0, .int p0), (1, .int p1), (2, .int x1), (3, .int x2)] [] []) ?_ F x1 x2 h
    clear h x1 x2
    intro k4 i4 x1 x2 h
    replace i4 : ∀ (x1 : Int32) (x2 : Int32), k4 x1 x2 = some r → JJ D X 4 0 0 4 [(0, .int p0), (1, .int p1), (2, .int x1), (3, .int x2)] [] [] := i4
    show JJ D X 4 0 0 4 [(0, .int p0), (1, .int p1), (2, .int x1), (3, .int x2)] [] []
    unfold bX2_choose_4 at h
    refine j_iload_n C dX2_choose_4 rfl 3 rfl ?_
    refine j_iload_n C dX2_choose_5 rfl 1 rfl ?_
    refine j_icmp_ge C (tgt := 31) dX2_choose_6 (by decide) h (fun c3 h => ?_) (fun c3 h => ?_)
    · refine j_iload_n C dX2_choose_31 rfl 2 rfl ?_
      exact j_iretR C (r := r) (rtf := fun r => (some (.int r))) (wff := fun r => (oX2_choose D  r)) E h rfl rfl dX2_choose_32
    · refine j_iload_n C dX2_choose_9 rfl 3 rfl ?_
      refine j_bipush C dX2_choose_10 (v := (9 : Int32)) (by decide) ?_
      refine j_icmp_ge C (tgt := 31) dX2_choose_12 (by decide) h (fun c4 h => ?_) (fun c4 h => ?_)
      · refine j_iload_n C dX2_choose_31 rfl 2 rfl ?_
        exact j_iretR C (r := r) (rtf := fun r => (some (.int r))) (wff := fun r => (oX2_choose D  r)) E h rfl rfl dX2_choose_32
      · refine j_iload_n C dX2_choose_15 rfl 2 rfl ?_
        refine j_iload_n C dX2_choose_16 rfl 0 rfl ?_
        refine j_iload_n C dX2_choose_17 rfl 3 rfl ?_
        refine j_isub C dX2_choose_18 ?_
        refine j_imul C dX2_choose_19 ?_
        refine j_iload_n C dX2_choose_20 rfl 3 rfl ?_
        refine j_iconst C dX2_choose_21 (v := (1 : Int32)) (by decide) ?_
        refine j_iadd C dX2_choose_22 ?_
        refine jl_grd h (fun b5 h => ?_)
        refine j_idiv C dX2_choose_23 b5 ?_
        refine j_istore_n C dX2_choose_24 rfl (lv' := fun v6 => [(2, .int v6), (0, .int p0), (1, .int p1), (3, .int x2)]) (by decide) (fun _ => rfl) h (fun v6 h => ?_)
        refine j_iinc C dX2_choose_25 3 rfl (lv' := fun v7 => [(3, .int v7), (2, .int v6), (0, .int p0), (1, .int p1)]) (by decide) (fun _ => rfl) h (fun v7 h => ?_)
        refine j_goto C dX2_choose_28 (tgt := 4) (by decide) ?_
        refine j_sub (lv' := [(0, .int p0), (1, .int p1), (2, .int v6), (3, .int v7)]) [2, 3, 1, 0] rfl ?_
        exact i4 v6 v7 h
  refine j_iconst C dX2_choose_0 (v := (1 : Int32)) (by decide) ?_
  refine j_istore_nC C dX2_choose_1 rfl (lv' := [(2, .int ((1 : Int32))), (0, .int p0), (1, .int p1)]) (by decide) rfl ?_
  refine j_iconst C dX2_choose_2 (v := (0 : Int32)) (by decide) ?_
  refine j_istore_nC C dX2_choose_3 rfl (lv' := [(3, .int ((0 : Int32))), (2, .int ((1 : Int32))), (0, .int p0), (1, .int p1)]) (by decide) rfl ?_
  refine j_sub (lv' := [(0, .int p0), (1, .int p1), (2, .int ((1 : Int32))), (3, .int ((0 : Int32)))]) [2, 3, 1, 0] rfl ?_
  exact L4 ((1 : Int32)) ((0 : Int32)) h
theorem dX2_rowsOf_0 : decode cX2_rowsOf 0 = .ok (.iconst 1, 1) := by decide +kernel
theorem dX2_rowsOf_1 : decode cX2_rowsOf 1 = .ok (.istore_n 1, 1) := by decide +kernel
theorem dX2_rowsOf_2 : decode cX2_rowsOf 2 = .ok (.iconst 2, 1) := by decide +kernel
theorem dX2_rowsOf_3 : decode cX2_rowsOf 3 = .ok (.istore_n 2, 1) := by decide +kernel
theorem dX2_rowsOf_4 : decode cX2_rowsOf 4 = .ok (.iload_n 2, 1) := by decide +kernel
theorem dX2_rowsOf_5 : decode cX2_rowsOf 5 = .ok (.iload_n 0, 1) := by decide +kernel
theorem dX2_rowsOf_6 : decode cX2_rowsOf 6 = .ok (.if_icmp .gt 19, 3) := by decide +kernel
theorem dX2_rowsOf_9 : decode cX2_rowsOf 9 = .ok (.iload_n 2, 1) := by decide +kernel
theorem dX2_rowsOf_10 : decode cX2_rowsOf 10 = .ok (.bipush 9, 2) := by decide +kernel
theorem dX2_rowsOf_12 : decode cX2_rowsOf 12 = .ok (.if_icmp .gt 13, 3) := by decide +kernel
theorem dX2_rowsOf_15 : decode cX2_rowsOf 15 = .ok (.iload_n 1, 1) := by decide +kernel
theorem dX2_rowsOf_16 : decode cX2_rowsOf 16 = .ok (.iload_n 2, 1) := by decide +kernel
theorem dX2_rowsOf_17 : decode cX2_rowsOf 17 = .ok (.imul, 1) := by decide +kernel
theorem dX2_rowsOf_18 : decode cX2_rowsOf 18 = .ok (.istore_n 1, 1) := by decide +kernel
theorem dX2_rowsOf_19 : decode cX2_rowsOf 19 = .ok (.iinc 2 1, 3) := by decide +kernel
theorem dX2_rowsOf_22 : decode cX2_rowsOf 22 = .ok (.goto (-18), 3) := by decide +kernel
theorem dX2_rowsOf_25 : decode cX2_rowsOf 25 = .ok (.iload_n 1, 1) := by decide +kernel
theorem dX2_rowsOf_26 : decode cX2_rowsOf 26 = .ok (.ireturn, 1) := by decide +kernel
def bX2_rowsOf_4 (F : Nat) (p0 : Int32)  (k4 : Int32 → Int32 → Option (Int32)) (x1 : Int32) (x2 : Int32) : Option (Int32) :=
(if p0 < x2 then
(some (x1))
else
(if ((9 : Int32)) < x2 then
(some (x1))
else
(jl_let (x1 * x2) fun v5 =>
(jl_let (x2 + Int32.ofInt (1)) fun v6 =>
(k4 v5 v6)))))
def lX2_rowsOf_4 (F : Nat) (p0 : Int32)  (F2 : Nat) (x1 : Int32) (x2 : Int32) : Option (Int32) := jl_loop2 (bX2_rowsOf_4 F p0 ) F2 x1 x2
def fX2_rowsOf (F : Nat) (p0 : Int32) : Option (Int32) :=
(lX2_rowsOf_4 F p0 F ((1 : Int32)) ((2 : Int32)))
def oX2_rowsOf (D : jv_D)  (r : Int32) : va_W := []
set_option maxHeartbeats 40000000 in
set_option maxRecDepth 100000 in
theorem mX2_rowsOf (l : Launch) (D : jv_D) (F : Nat) (p0 : Int32) (r : Int32) (h : fX2_rowsOf F p0 = some r) : MM l yX2_rowsOf (jW yX2_rowsOf cX2_rowsOf 3 (some .int)) ({ frames := 0, cells := 0, slots := 0, locals := 0 }) D [.int p0] [] (some (.int r)) (oX2_rowsOf D  r) := by
  refine mn_of hpX2_rowsOf (Nat.le_of_ble_eq_true rfl) ?_
  intro X hXl C E0 hN
  subst hXl
  replace C : JC D X 3 RX2 cX2_rowsOf ({ frames := 0, cells := 0, slots := 0, locals := 0 }) := C
  have E : JE D X 0 0 (some .int) (fun _ : Unit => (some (.int r))) (fun _ : Unit => (oX2_rowsOf D  r)) := E0 0 0 rfl rfl
  clear E0 hN
  show JJ D X 3 0 0 0 [(0, .int p0)] [] []
  unfold fX2_rowsOf at h
  have L4 : ∀ (x1 : Int32) (x2 : Int32), lX2_rowsOf_4 F p0  F x1 x2 = some r → JJ D X 3 0 0 4 [(0, .int p0), (1, .int x1), (2, .int x2)] [] [] := by
    intro x1 x2 h
    refine jl_ind2 (fun x1 x2 => JJ D X 3 0 0 4 [(0, .int p0), (1, .int x1), (2, .int x2)] [] []) ?_ F x1 x2 h
    clear h x1 x2
    intro k4 i4 x1 x2 h
    replace i4 : ∀ (x1 : Int32) (x2 : Int32), k4 x1 x2 = some r → JJ D X 3 0 0 4 [(0, .int p0), (1, .int x1), (2, .int x2)] [] [] := i4
    show JJ D X 3 0 0 4 [(0, .int p0), (1, .int x1), (2, .int x2)] [] []
    unfold bX2_rowsOf_4 at h
    refine j_iload_n C dX2_rowsOf_4 rfl 2 rfl ?_
    refine j_iload_n C dX2_rowsOf_5 rfl 0 rfl ?_
    refine j_icmp_gt C (tgt := 25) dX2_rowsOf_6 (by decide) h (fun c3 h => ?_) (fun c3 h => ?_)
    · refine j_iload_n C dX2_rowsOf_25 rfl 1 rfl ?_
      exact j_iretR C (r := r) (rtf := fun r => (some (.int r))) (wff := fun r => (oX2_rowsOf D  r)) E h rfl rfl dX2_rowsOf_26
    · refine j_iload_n C dX2_rowsOf_9 rfl 2 rfl ?_
      refine j_bipush C dX2_rowsOf_10 (v := (9 : Int32)) (by decide) ?_
      refine j_icmp_gt C (tgt := 25) dX2_rowsOf_12 (by decide) h (fun c4 h => ?_) (fun c4 h => ?_)
      · refine j_iload_n C dX2_rowsOf_25 rfl 1 rfl ?_
        exact j_iretR C (r := r) (rtf := fun r => (some (.int r))) (wff := fun r => (oX2_rowsOf D  r)) E h rfl rfl dX2_rowsOf_26
      · refine j_iload_n C dX2_rowsOf_15 rfl 1 rfl ?_
        refine j_iload_n C dX2_rowsOf_16 rfl 2 rfl ?_
        refine j_imul C dX2_rowsOf_17 ?_
        refine j_istore_n C dX2_rowsOf_18 rfl (lv' := fun v5 => [(1, .int v5), (0, .int p0), (2, .int x2)]) (by decide) (fun _ => rfl) h (fun v5 h => ?_)
        refine j_iinc C dX2_rowsOf_19 2 rfl (lv' := fun v6 => [(2, .int v6), (1, .int v5), (0, .int p0)]) (by decide) (fun _ => rfl) h (fun v6 h => ?_)
        refine j_goto C dX2_rowsOf_22 (tgt := 4) (by decide) ?_
        refine j_sub (lv' := [(0, .int p0), (1, .int v5), (2, .int v6)]) [2, 1, 0] rfl ?_
        exact i4 v5 v6 h
  refine j_iconst C dX2_rowsOf_0 (v := (1 : Int32)) (by decide) ?_
  refine j_istore_nC C dX2_rowsOf_1 rfl (lv' := [(1, .int ((1 : Int32))), (0, .int p0)]) (by decide) rfl ?_
  refine j_iconst C dX2_rowsOf_2 (v := (2 : Int32)) (by decide) ?_
  refine j_istore_nC C dX2_rowsOf_3 rfl (lv' := [(2, .int ((2 : Int32))), (1, .int ((1 : Int32))), (0, .int p0)]) (by decide) rfl ?_
  refine j_sub (lv' := [(0, .int p0), (1, .int ((1 : Int32))), (2, .int ((2 : Int32)))]) [2, 1, 0] rfl ?_
  exact L4 ((1 : Int32)) ((2 : Int32)) h
theorem dX2_ordersOf_0 : decode cX2_ordersOf 0 = .ok (.iload_n 1, 1) := by decide +kernel
theorem dX2_ordersOf_1 : decode cX2_ordersOf 1 = .ok (.invokestatic 9, 3) := by decide +kernel
theorem dX2_ordersOf_4 : decode cX2_ordersOf 4 = .ok (.istore_n 2, 1) := by decide +kernel
theorem dX2_ordersOf_5 : decode cX2_ordersOf 5 = .ok (.iload_n 2, 1) := by decide +kernel
theorem dX2_ordersOf_6 : decode cX2_ordersOf 6 = .ok (.iload_n 2, 1) := by decide +kernel
theorem dX2_ordersOf_7 : decode cX2_ordersOf 7 = .ok (.iconst 2, 1) := by decide +kernel
theorem dX2_ordersOf_8 : decode cX2_ordersOf 8 = .ok (.idiv, 1) := by decide +kernel
theorem dX2_ordersOf_9 : decode cX2_ordersOf 9 = .ok (.isub, 1) := by decide +kernel
theorem dX2_ordersOf_10 : decode cX2_ordersOf 10 = .ok (.istore_n 3, 1) := by decide +kernel
theorem dX2_ordersOf_11 : decode cX2_ordersOf 11 = .ok (.aload_n 0, 1) := by decide +kernel
theorem dX2_ordersOf_12 : decode cX2_ordersOf 12 = .ok (.iload_n 1, 1) := by decide +kernel
theorem dX2_ordersOf_13 : decode cX2_ordersOf 13 = .ok (.invokestatic 15, 3) := by decide +kernel
theorem dX2_ordersOf_16 : decode cX2_ordersOf 16 = .ok (.invokestatic 9, 3) := by decide +kernel
theorem dX2_ordersOf_19 : decode cX2_ordersOf 19 = .ok (.istore 4, 2) := by decide +kernel
theorem dX2_ordersOf_21 : decode cX2_ordersOf 21 = .ok (.iload_n 3, 1) := by decide +kernel
theorem dX2_ordersOf_22 : decode cX2_ordersOf 22 = .ok (.aload_n 0, 1) := by decide +kernel
theorem dX2_ordersOf_23 : decode cX2_ordersOf 23 = .ok (.iload_n 1, 1) := by decide +kernel
theorem dX2_ordersOf_24 : decode cX2_ordersOf 24 = .ok (.iconst 0, 1) := by decide +kernel
theorem dX2_ordersOf_25 : decode cX2_ordersOf 25 = .ok (.invokestatic 21, 3) := by decide +kernel
theorem dX2_ordersOf_28 : decode cX2_ordersOf 28 = .ok (.invokestatic 9, 3) := by decide +kernel
theorem dX2_ordersOf_31 : decode cX2_ordersOf 31 = .ok (.isub, 1) := by decide +kernel
theorem dX2_ordersOf_32 : decode cX2_ordersOf 32 = .ok (.istore 5, 2) := by decide +kernel
theorem dX2_ordersOf_34 : decode cX2_ordersOf 34 = .ok (.aload_n 0, 1) := by decide +kernel
theorem dX2_ordersOf_35 : decode cX2_ordersOf 35 = .ok (.iload_n 1, 1) := by decide +kernel
theorem dX2_ordersOf_36 : decode cX2_ordersOf 36 = .ok (.invokestatic 25, 3) := by decide +kernel
theorem dX2_ordersOf_39 : decode cX2_ordersOf 39 = .ok (.ifCond .ne 15, 3) := by decide +kernel
theorem dX2_ordersOf_42 : decode cX2_ordersOf 42 = .ok (.iload 5, 2) := by decide +kernel
theorem dX2_ordersOf_44 : decode cX2_ordersOf 44 = .ok (.ifCond .lt 10, 3) := by decide +kernel
theorem dX2_ordersOf_47 : decode cX2_ordersOf 47 = .ok (.iload 5, 2) := by decide +kernel
theorem dX2_ordersOf_49 : decode cX2_ordersOf 49 = .ok (.iload 4, 2) := by decide +kernel
theorem dX2_ordersOf_51 : decode cX2_ordersOf 51 = .ok (.if_icmp .le 5, 3) := by decide +kernel
theorem dX2_ordersOf_54 : decode cX2_ordersOf 54 = .ok (.iconst 0, 1) := by decide +kernel
theorem dX2_ordersOf_55 : decode cX2_ordersOf 55 = .ok (.ireturn, 1) := by decide +kernel
theorem dX2_ordersOf_56 : decode cX2_ordersOf 56 = .ok (.iload 4, 2) := by decide +kernel
theorem dX2_ordersOf_58 : decode cX2_ordersOf 58 = .ok (.iload 5, 2) := by decide +kernel
theorem dX2_ordersOf_60 : decode cX2_ordersOf 60 = .ok (.invokestatic 28, 3) := by decide +kernel
theorem dX2_ordersOf_63 : decode cX2_ordersOf 63 = .ok (.iload_n 3, 1) := by decide +kernel
theorem dX2_ordersOf_64 : decode cX2_ordersOf 64 = .ok (.invokestatic 32, 3) := by decide +kernel
theorem dX2_ordersOf_67 : decode cX2_ordersOf 67 = .ok (.imul, 1) := by decide +kernel
theorem dX2_ordersOf_68 : decode cX2_ordersOf 68 = .ok (.iload_n 2, 1) := by decide +kernel
theorem dX2_ordersOf_69 : decode cX2_ordersOf 69 = .ok (.iload_n 3, 1) := by decide +kernel
theorem dX2_ordersOf_70 : decode cX2_ordersOf 70 = .ok (.isub, 1) := by decide +kernel
theorem dX2_ordersOf_71 : decode cX2_ordersOf 71 = .ok (.invokestatic 32, 3) := by decide +kernel
theorem dX2_ordersOf_74 : decode cX2_ordersOf 74 = .ok (.imul, 1) := by decide +kernel
theorem dX2_ordersOf_75 : decode cX2_ordersOf 75 = .ok (.ireturn, 1) := by decide +kernel
def fX2_ordersOf (F : Nat) (a0_paints : Int32) (a0_paintsOf0 : Int32) (a0_paintsOf1 : Int32) (p1 : Int32) : Option (Int32) :=
((fJ6_bitCount_0f7a4 p1).bind fun r1 =>
(jl_let (r1 - (r1 / ((2 : Int32)))) fun v3 =>
((fX2_byEither F a0_paints a0_paintsOf0 a0_paintsOf1 p1).bind fun r4 =>
((fJ6_bitCount_0f7a4 r4).bind fun r6 =>
((fX2_byOneAlone F a0_paints a0_paintsOf0 a0_paintsOf1 p1 ((0 : Int32))).bind fun r8 =>
((fJ6_bitCount_0f7a4 r8).bind fun r10 =>
(jl_let (v3 - r10) fun v12 =>
((fX2_byNeither F a0_paints a0_paintsOf0 a0_paintsOf1 p1).bind fun r13 =>
(if r13 = 0 then
(if v12 < 0 then
(some ((0 : Int32)))
else
(if v12 ≤ r6 then
((fX2_choose F r6 v12).bind fun r18 =>
((fX2_rowsOf F v3).bind fun r20 =>
((fX2_rowsOf F (r1 - v3)).bind fun r22 =>
(some ((r18 * r20) * r22)))))
else
(some ((0 : Int32)))))
else
(some ((0 : Int32))))))))))))
def oX2_ordersOf (D : jv_D) (h_a0 : Nat) (h_a0_ruledOut : Nat) (a0_rows : Int32) (a0_columns : Int32) (a0_paints : Int32) (a0_apart : Int32) (a0_paintsOf0 : Int32) (a0_paintsOf1 : Int32) (a0_old : Int32) (a0_shut : Int32) (a0_all : Int32) (a0_firstColumn : Int32) (a0_fitsAtFirst : Int32) (a0_paintingsOf0 : Int32) (a0_paintingsOf1 : Int32) (r : Int32) : va_W := [(h_a0, .inr (2, [.int a0_rows, .int a0_columns, .int a0_paints, .int a0_apart, .int a0_paintsOf0, .int a0_paintsOf1, .int a0_old, .int a0_shut, .int a0_all, .int a0_firstColumn, .int a0_fitsAtFirst, .int a0_paintingsOf0, .int a0_paintingsOf1, .ref h_a0_ruledOut]))]
set_option maxHeartbeats 40000000 in
set_option maxRecDepth 100000 in
theorem mX2_ordersOf (l : Launch) (D : jv_D) (F : Nat) (h_a0 : Nat) (h_a0_ruledOut : Nat) (a0_rows : Int32) (a0_columns : Int32) (a0_paints : Int32) (a0_apart : Int32) (a0_paintsOf0 : Int32) (a0_paintsOf1 : Int32) (a0_old : Int32) (a0_shut : Int32) (a0_all : Int32) (a0_firstColumn : Int32) (a0_fitsAtFirst : Int32) (a0_paintingsOf0 : Int32) (a0_paintingsOf1 : Int32) (p1 : Int32) (r : Int32) (h : fX2_ordersOf F a0_paints a0_paintsOf0 a0_paintsOf1 p1 = some r) : MM l yX2_ordersOf (jW yX2_ordersOf cX2_ordersOf 6 (some .int)) ({ frames := 3, cells := 0, slots := 0, locals := 66 }) D [.ref h_a0, .int p1] [(h_a0, .inr (2, [.int a0_rows, .int a0_columns, .int a0_paints, .int a0_apart, .int a0_paintsOf0, .int a0_paintsOf1, .int a0_old, .int a0_shut, .int a0_all, .int a0_firstColumn, .int a0_fitsAtFirst, .int a0_paintingsOf0, .int a0_paintingsOf1, .ref h_a0_ruledOut]))] (some (.int r)) (oX2_ordersOf D h_a0 h_a0_ruledOut a0_rows a0_columns a0_paints a0_apart a0_paintsOf0 a0_paintsOf1 a0_old a0_shut a0_all a0_firstColumn a0_fitsAtFirst a0_paintingsOf0 a0_paintingsOf1 r) := by
  refine mn_of hpX2_ordersOf (Nat.le_of_ble_eq_true rfl) ?_
  intro X hXl C E0 hN
  subst hXl
  replace C : JC D X 6 RX2 cX2_ordersOf ({ frames := 3, cells := 0, slots := 0, locals := 66 }) := C
  have E : JE D X 0 0 (some .int) (fun _ : Unit => (some (.int r))) (fun _ : Unit => (oX2_ordersOf D h_a0 h_a0_ruledOut a0_rows a0_columns a0_paints a0_apart a0_paintsOf0 a0_paintsOf1 a0_old a0_shut a0_all a0_firstColumn a0_fitsAtFirst a0_paintingsOf0 a0_paintingsOf1 r)) := E0 0 0 rfl rfl
  clear E0 hN
  show JJ D X 6 0 0 0 [(0, .ref h_a0), (1, .int p1)] [] [(h_a0, .inr (2, [.int a0_rows, .int a0_columns, .int a0_paints, .int a0_apart, .int a0_paintsOf0, .int a0_paintsOf1, .int a0_old, .int a0_shut, .int a0_all, .int a0_firstColumn, .int a0_fitsAtFirst, .int a0_paintingsOf0, .int a0_paintingsOf1, .ref h_a0_ruledOut]))]
  unfold fX2_ordersOf at h
  refine j_iload_n C dX2_ordersOf_0 rfl 1 rfl ?_
  obtain ⟨r1, q2, h⟩ := jl_bind h
  refine j_cS1 C (mJ6_bitCount_0f7a4 (jlaunch X) D p1 r1 q2) bmX2_9 btJ6_bitCount_0f7a4 bzJ6 bcJ6_bitCount_0f7a4 hJ6_bitCount_0f7a4 (rest := []) rfl (jroom_of rfl) [] [0] [0] (wr := [(h_a0, .inr (2, [.int a0_rows, .int a0_columns, .int a0_paints, .int a0_apart, .int a0_paintsOf0, .int a0_paintsOf1, .int a0_old, .int a0_shut, .int a0_all, .int a0_firstColumn, .int a0_fitsAtFirst, .int a0_paintingsOf0, .int a0_paintingsOf1, .ref h_a0_ruledOut]))]) (ws2 := [(h_a0, .inr (2, [.int a0_rows, .int a0_columns, .int a0_paints, .int a0_apart, .int a0_paintsOf0, .int a0_paintsOf1, .int a0_old, .int a0_shut, .int a0_all, .int a0_firstColumn, .int a0_fitsAtFirst, .int a0_paintingsOf0, .int a0_paintingsOf1, .ref h_a0_ruledOut]))]) rfl rfl rfl rfl rfl (Nat.le_of_ble_eq_true rfl) dX2_ordersOf_1 ?_
  refine j_istore_nC C dX2_ordersOf_4 rfl (lv' := [(2, .int r1), (0, .ref h_a0), (1, .int p1)]) (by decide) rfl ?_
  refine j_iload_n C dX2_ordersOf_5 rfl 0 rfl ?_
  refine j_iload_n C dX2_ordersOf_6 rfl 0 rfl ?_
  refine j_iconst C dX2_ordersOf_7 (v := (2 : Int32)) (by decide) ?_
  refine j_idiv C dX2_ordersOf_8 (by decide) ?_
  refine j_isub C dX2_ordersOf_9 ?_
  refine j_istore_n C dX2_ordersOf_10 rfl (lv' := fun v3 => [(3, .int v3), (2, .int r1), (0, .ref h_a0), (1, .int p1)]) (by decide) (fun _ => rfl) h (fun v3 h => ?_)
  refine j_aload_n C dX2_ordersOf_11 rfl 2 rfl ?_
  refine j_iload_n C dX2_ordersOf_12 rfl 3 rfl ?_
  obtain ⟨r4, q5, h⟩ := jl_bind h
  refine j_cS1 C (mX2_byEither (jlaunch X) D F h_a0 h_a0_ruledOut a0_rows a0_columns a0_paints a0_apart a0_paintsOf0 a0_paintsOf1 a0_old a0_shut a0_all a0_firstColumn a0_fitsAtFirst a0_paintingsOf0 a0_paintingsOf1 p1 r4 q5) bmX2_15 btX2_byEither bzX2 bcX2_byEither hX2_byEither (rest := []) rfl (jroom_of rfl) [0] [] [0] (wr := []) (ws2 := [(h_a0, .inr (2, [.int a0_rows, .int a0_columns, .int a0_paints, .int a0_apart, .int a0_paintsOf0, .int a0_paintsOf1, .int a0_old, .int a0_shut, .int a0_all, .int a0_firstColumn, .int a0_fitsAtFirst, .int a0_paintingsOf0, .int a0_paintingsOf1, .ref h_a0_ruledOut]))]) rfl rfl rfl rfl rfl (Nat.le_of_ble_eq_true rfl) dX2_ordersOf_13 ?_
  obtain ⟨r6, q7, h⟩ := jl_bind h
  refine j_cS1 C (mJ6_bitCount_0f7a4 (jlaunch X) D r4 r6 q7) bmX2_9 btJ6_bitCount_0f7a4 bzJ6 bcJ6_bitCount_0f7a4 hJ6_bitCount_0f7a4 (rest := []) rfl (jroom_of rfl) [] [0] [0] (wr := [(h_a0, .inr (2, [.int a0_rows, .int a0_columns, .int a0_paints, .int a0_apart, .int a0_paintsOf0, .int a0_paintsOf1, .int a0_old, .int a0_shut, .int a0_all, .int a0_firstColumn, .int a0_fitsAtFirst, .int a0_paintingsOf0, .int a0_paintingsOf1, .ref h_a0_ruledOut]))]) (ws2 := [(h_a0, .inr (2, [.int a0_rows, .int a0_columns, .int a0_paints, .int a0_apart, .int a0_paintsOf0, .int a0_paintsOf1, .int a0_old, .int a0_shut, .int a0_all, .int a0_firstColumn, .int a0_fitsAtFirst, .int a0_paintingsOf0, .int a0_paintingsOf1, .ref h_a0_ruledOut]))]) rfl rfl rfl rfl rfl (Nat.le_of_ble_eq_true rfl) dX2_ordersOf_16 ?_
  refine j_istoreC C dX2_ordersOf_19 (lv' := [(4, .int r6), (3, .int v3), (2, .int r1), (0, .ref h_a0), (1, .int p1)]) (by decide) rfl ?_
  refine j_iload_n C dX2_ordersOf_21 rfl 1 rfl ?_
  refine j_aload_n C dX2_ordersOf_22 rfl 3 rfl ?_
  refine j_iload_n C dX2_ordersOf_23 rfl 4 rfl ?_
  refine j_iconst C dX2_ordersOf_24 (v := (0 : Int32)) (by decide) ?_
  obtain ⟨r8, q9, h⟩ := jl_bind h
  refine j_cS1 C (mX2_byOneAlone (jlaunch X) D F h_a0 h_a0_ruledOut a0_rows a0_columns a0_paints a0_apart a0_paintsOf0 a0_paintsOf1 a0_old a0_shut a0_all a0_firstColumn a0_fitsAtFirst a0_paintingsOf0 a0_paintingsOf1 p1 ((0 : Int32)) r8 q9) bmX2_21 btX2_byOneAlone bzX2 bcX2_byOneAlone hX2_byOneAlone (rest := [.int v3]) rfl (jroom_of rfl) [0] [] [0] (wr := []) (ws2 := [(h_a0, .inr (2, [.int a0_rows, .int a0_columns, .int a0_paints, .int a0_apart, .int a0_paintsOf0, .int a0_paintsOf1, .int a0_old, .int a0_shut, .int a0_all, .int a0_firstColumn, .int a0_fitsAtFirst, .int a0_paintingsOf0, .int a0_paintingsOf1, .ref h_a0_ruledOut]))]) rfl rfl rfl rfl rfl (Nat.le_of_ble_eq_true rfl) dX2_ordersOf_25 ?_
  obtain ⟨r10, q11, h⟩ := jl_bind h
  refine j_cS1 C (mJ6_bitCount_0f7a4 (jlaunch X) D r8 r10 q11) bmX2_9 btJ6_bitCount_0f7a4 bzJ6 bcJ6_bitCount_0f7a4 hJ6_bitCount_0f7a4 (rest := [.int v3]) rfl (jroom_of rfl) [] [0] [0] (wr := [(h_a0, .inr (2, [.int a0_rows, .int a0_columns, .int a0_paints, .int a0_apart, .int a0_paintsOf0, .int a0_paintsOf1, .int a0_old, .int a0_shut, .int a0_all, .int a0_firstColumn, .int a0_fitsAtFirst, .int a0_paintingsOf0, .int a0_paintingsOf1, .ref h_a0_ruledOut]))]) (ws2 := [(h_a0, .inr (2, [.int a0_rows, .int a0_columns, .int a0_paints, .int a0_apart, .int a0_paintsOf0, .int a0_paintsOf1, .int a0_old, .int a0_shut, .int a0_all, .int a0_firstColumn, .int a0_fitsAtFirst, .int a0_paintingsOf0, .int a0_paintingsOf1, .ref h_a0_ruledOut]))]) rfl rfl rfl rfl rfl (Nat.le_of_ble_eq_true rfl) dX2_ordersOf_28 ?_
  refine j_isub C dX2_ordersOf_31 ?_
  refine j_istore C dX2_ordersOf_32 (lv' := fun v12 => [(5, .int v12), (4, .int r6), (3, .int v3), (2, .int r1), (0, .ref h_a0), (1, .int p1)]) (by decide) (fun _ => rfl) h (fun v12 h => ?_)
  refine j_aload_n C dX2_ordersOf_34 rfl 4 rfl ?_
  refine j_iload_n C dX2_ordersOf_35 rfl 5 rfl ?_
  obtain ⟨r13, q14, h⟩ := jl_bind h
  refine j_cS1 C (mX2_byNeither (jlaunch X) D F h_a0 h_a0_ruledOut a0_rows a0_columns a0_paints a0_apart a0_paintsOf0 a0_paintsOf1 a0_old a0_shut a0_all a0_firstColumn a0_fitsAtFirst a0_paintingsOf0 a0_paintingsOf1 p1 r13 q14) bmX2_25 btX2_byNeither bzX2 bcX2_byNeither hX2_byNeither (rest := []) rfl (jroom_of rfl) [0] [] [0] (wr := []) (ws2 := [(h_a0, .inr (2, [.int a0_rows, .int a0_columns, .int a0_paints, .int a0_apart, .int a0_paintsOf0, .int a0_paintsOf1, .int a0_old, .int a0_shut, .int a0_all, .int a0_firstColumn, .int a0_fitsAtFirst, .int a0_paintingsOf0, .int a0_paintingsOf1, .ref h_a0_ruledOut]))]) rfl rfl rfl rfl rfl (Nat.le_of_ble_eq_true rfl) dX2_ordersOf_36 ?_
  refine j_if_ne C (tgt := 54) dX2_ordersOf_39 (by decide) h (fun c15 h => ?_) (fun c15 h => ?_)
  · refine j_iload C dX2_ordersOf_42 0 rfl ?_
    refine j_if_lt C (tgt := 54) dX2_ordersOf_44 (by decide) h (fun c16 h => ?_) (fun c16 h => ?_)
    · refine j_iconst C dX2_ordersOf_54 (v := (0 : Int32)) (by decide) ?_
      exact j_iretR C (r := r) (rtf := fun r => (some (.int r))) (wff := fun r => (oX2_ordersOf D h_a0 h_a0_ruledOut a0_rows a0_columns a0_paints a0_apart a0_paintsOf0 a0_paintsOf1 a0_old a0_shut a0_all a0_firstColumn a0_fitsAtFirst a0_paintingsOf0 a0_paintingsOf1 r)) E h rfl rfl dX2_ordersOf_55
    · refine j_iload C dX2_ordersOf_47 0 rfl ?_
      refine j_iload C dX2_ordersOf_49 1 rfl ?_
      refine j_icmp_le C (tgt := 56) dX2_ordersOf_51 (by decide) h (fun c17 h => ?_) (fun c17 h => ?_)
      · refine j_iload C dX2_ordersOf_56 1 rfl ?_
        refine j_iload C dX2_ordersOf_58 0 rfl ?_
        obtain ⟨r18, q19, h⟩ := jl_bind h
        refine j_cS1 C (mX2_choose (jlaunch X) D F r6 v12 r18 q19) bmX2_28 btX2_choose bzX2 bcX2_choose hX2_choose (rest := []) rfl (jroom_of rfl) [] [0] [0] (wr := [(h_a0, .inr (2, [.int a0_rows, .int a0_columns, .int a0_paints, .int a0_apart, .int a0_paintsOf0, .int a0_paintsOf1, .int a0_old, .int a0_shut, .int a0_all, .int a0_firstColumn, .int a0_fitsAtFirst, .int a0_paintingsOf0, .int a0_paintingsOf1, .ref h_a0_ruledOut]))]) (ws2 := [(h_a0, .inr (2, [.int a0_rows, .int a0_columns, .int a0_paints, .int a0_apart, .int a0_paintsOf0, .int a0_paintsOf1, .int a0_old, .int a0_shut, .int a0_all, .int a0_firstColumn, .int a0_fitsAtFirst, .int a0_paintingsOf0, .int a0_paintingsOf1, .ref h_a0_ruledOut]))]) rfl rfl rfl rfl rfl (Nat.le_of_ble_eq_true rfl) dX2_ordersOf_60 ?_
        refine j_iload_n C dX2_ordersOf_63 rfl 2 rfl ?_
        obtain ⟨r20, q21, h⟩ := jl_bind h
        refine j_cS1 C (mX2_rowsOf (jlaunch X) D F v3 r20 q21) bmX2_32 btX2_rowsOf bzX2 bcX2_rowsOf hX2_rowsOf (rest := [.int r18]) rfl (jroom_of rfl) [] [0] [0] (wr := [(h_a0, .inr (2, [.int a0_rows, .int a0_columns, .int a0_paints, .int a0_apart, .int a0_paintsOf0, .int a0_paintsOf1, .int a0_old, .int a0_shut, .int a0_all, .int a0_firstColumn, .int a0_fitsAtFirst, .int a0_paintingsOf0, .int a0_paintingsOf1, .ref h_a0_ruledOut]))]) (ws2 := [(h_a0, .inr (2, [.int a0_rows, .int a0_columns, .int a0_paints, .int a0_apart, .int a0_paintsOf0, .int a0_paintsOf1, .int a0_old, .int a0_shut, .int a0_all, .int a0_firstColumn, .int a0_fitsAtFirst, .int a0_paintingsOf0, .int a0_paintingsOf1, .ref h_a0_ruledOut]))]) rfl rfl rfl rfl rfl (Nat.le_of_ble_eq_true rfl) dX2_ordersOf_64 ?_
        refine j_imul C dX2_ordersOf_67 ?_
        refine j_iload_n C dX2_ordersOf_68 rfl 3 rfl ?_
        refine j_iload_n C dX2_ordersOf_69 rfl 2 rfl ?_
        refine j_isub C dX2_ordersOf_70 ?_
        obtain ⟨r22, q23, h⟩ := jl_bind h
        refine j_cS1 C (mX2_rowsOf (jlaunch X) D F (r1 - v3) r22 q23) bmX2_32 btX2_rowsOf bzX2 bcX2_rowsOf hX2_rowsOf (rest := [.int (r18 * r20)]) rfl (jroom_of rfl) [] [0] [0] (wr := [(h_a0, .inr (2, [.int a0_rows, .int a0_columns, .int a0_paints, .int a0_apart, .int a0_paintsOf0, .int a0_paintsOf1, .int a0_old, .int a0_shut, .int a0_all, .int a0_firstColumn, .int a0_fitsAtFirst, .int a0_paintingsOf0, .int a0_paintingsOf1, .ref h_a0_ruledOut]))]) (ws2 := [(h_a0, .inr (2, [.int a0_rows, .int a0_columns, .int a0_paints, .int a0_apart, .int a0_paintsOf0, .int a0_paintsOf1, .int a0_old, .int a0_shut, .int a0_all, .int a0_firstColumn, .int a0_fitsAtFirst, .int a0_paintingsOf0, .int a0_paintingsOf1, .ref h_a0_ruledOut]))]) rfl rfl rfl rfl rfl (Nat.le_of_ble_eq_true rfl) dX2_ordersOf_71 ?_
        refine j_imul C dX2_ordersOf_74 ?_
        exact j_iretR C (r := r) (rtf := fun r => (some (.int r))) (wff := fun r => (oX2_ordersOf D h_a0 h_a0_ruledOut a0_rows a0_columns a0_paints a0_apart a0_paintsOf0 a0_paintsOf1 a0_old a0_shut a0_all a0_firstColumn a0_fitsAtFirst a0_paintingsOf0 a0_paintingsOf1 r)) E h rfl rfl dX2_ordersOf_75
      · refine j_iconst C dX2_ordersOf_54 (v := (0 : Int32)) (by decide) ?_
        exact j_iretR C (r := r) (rtf := fun r => (some (.int r))) (wff := fun r => (oX2_ordersOf D h_a0 h_a0_ruledOut a0_rows a0_columns a0_paints a0_apart a0_paintsOf0 a0_paintsOf1 a0_old a0_shut a0_all a0_firstColumn a0_fitsAtFirst a0_paintingsOf0 a0_paintingsOf1 r)) E h rfl rfl dX2_ordersOf_55
  · refine j_iconst C dX2_ordersOf_54 (v := (0 : Int32)) (by decide) ?_
    exact j_iretR C (r := r) (rtf := fun r => (some (.int r))) (wff := fun r => (oX2_ordersOf D h_a0 h_a0_ruledOut a0_rows a0_columns a0_paints a0_apart a0_paintsOf0 a0_paintsOf1 a0_old a0_shut a0_all a0_firstColumn a0_fitsAtFirst a0_paintingsOf0 a0_paintingsOf1 r)) E h rfl rfl dX2_ordersOf_55
theorem dX2_surelyBy_0 : decode cX2_surelyBy 0 = .ok (.aload_n 0, 1) := by decide +kernel
theorem dX2_surelyBy_1 : decode cX2_surelyBy 1 = .ok (.iload_n 1, 1) := by decide +kernel
theorem dX2_surelyBy_2 : decode cX2_surelyBy 2 = .ok (.invokestatic 35, 3) := by decide +kernel
theorem dX2_surelyBy_5 : decode cX2_surelyBy 5 = .ok (.ifCond .ne 5, 3) := by decide +kernel
theorem dX2_surelyBy_8 : decode cX2_surelyBy 8 = .ok (.iconst 0, 1) := by decide +kernel
theorem dX2_surelyBy_9 : decode cX2_surelyBy 9 = .ok (.ireturn, 1) := by decide +kernel
theorem dX2_surelyBy_10 : decode cX2_surelyBy 10 = .ok (.iload_n 1, 1) := by decide +kernel
theorem dX2_surelyBy_11 : decode cX2_surelyBy 11 = .ok (.invokestatic 9, 3) := by decide +kernel
theorem dX2_surelyBy_14 : decode cX2_surelyBy 14 = .ok (.istore_n 3, 1) := by decide +kernel
theorem dX2_surelyBy_15 : decode cX2_surelyBy 15 = .ok (.iload_n 2, 1) := by decide +kernel
theorem dX2_surelyBy_16 : decode cX2_surelyBy 16 = .ok (.ifCond .ne 11, 3) := by decide +kernel
theorem dX2_surelyBy_19 : decode cX2_surelyBy 19 = .ok (.iload_n 3, 1) := by decide +kernel
theorem dX2_surelyBy_20 : decode cX2_surelyBy 20 = .ok (.iload_n 3, 1) := by decide +kernel
theorem dX2_surelyBy_21 : decode cX2_surelyBy 21 = .ok (.iconst 2, 1) := by decide +kernel
theorem dX2_surelyBy_22 : decode cX2_surelyBy 22 = .ok (.idiv, 1) := by decide +kernel
theorem dX2_surelyBy_23 : decode cX2_surelyBy 23 = .ok (.isub, 1) := by decide +kernel
theorem dX2_surelyBy_24 : decode cX2_surelyBy 24 = .ok (.goto 6, 3) := by decide +kernel
theorem dX2_surelyBy_27 : decode cX2_surelyBy 27 = .ok (.iload_n 3, 1) := by decide +kernel
theorem dX2_surelyBy_28 : decode cX2_surelyBy 28 = .ok (.iconst 2, 1) := by decide +kernel
theorem dX2_surelyBy_29 : decode cX2_surelyBy 29 = .ok (.idiv, 1) := by decide +kernel
theorem dX2_surelyBy_30 : decode cX2_surelyBy 30 = .ok (.istore 4, 2) := by decide +kernel
theorem dX2_surelyBy_32 : decode cX2_surelyBy 32 = .ok (.aload_n 0, 1) := by decide +kernel
theorem dX2_surelyBy_33 : decode cX2_surelyBy 33 = .ok (.iload_n 1, 1) := by decide +kernel
theorem dX2_surelyBy_34 : decode cX2_surelyBy 34 = .ok (.iload_n 2, 1) := by decide +kernel
theorem dX2_surelyBy_35 : decode cX2_surelyBy 35 = .ok (.invokestatic 21, 3) := by decide +kernel
theorem dX2_surelyBy_38 : decode cX2_surelyBy 38 = .ok (.istore 5, 2) := by decide +kernel
theorem dX2_surelyBy_40 : decode cX2_surelyBy 40 = .ok (.aload_n 0, 1) := by decide +kernel
theorem dX2_surelyBy_41 : decode cX2_surelyBy 41 = .ok (.iload_n 1, 1) := by decide +kernel
theorem dX2_surelyBy_42 : decode cX2_surelyBy 42 = .ok (.invokestatic 15, 3) := by decide +kernel
theorem dX2_surelyBy_45 : decode cX2_surelyBy 45 = .ok (.istore 6, 2) := by decide +kernel
theorem dX2_surelyBy_47 : decode cX2_surelyBy 47 = .ok (.iload 4, 2) := by decide +kernel
theorem dX2_surelyBy_49 : decode cX2_surelyBy 49 = .ok (.iload 5, 2) := by decide +kernel
theorem dX2_surelyBy_51 : decode cX2_surelyBy 51 = .ok (.invokestatic 9, 3) := by decide +kernel
theorem dX2_surelyBy_54 : decode cX2_surelyBy 54 = .ok (.isub, 1) := by decide +kernel
theorem dX2_surelyBy_55 : decode cX2_surelyBy 55 = .ok (.iload 6, 2) := by decide +kernel
theorem dX2_surelyBy_57 : decode cX2_surelyBy 57 = .ok (.invokestatic 9, 3) := by decide +kernel
theorem dX2_surelyBy_60 : decode cX2_surelyBy 60 = .ok (.if_icmp .ne 7, 3) := by decide +kernel
theorem dX2_surelyBy_63 : decode cX2_surelyBy 63 = .ok (.iconst 1, 1) := by decide +kernel
theorem dX2_surelyBy_64 : decode cX2_surelyBy 64 = .ok (.goto 4, 3) := by decide +kernel
theorem dX2_surelyBy_67 : decode cX2_surelyBy 67 = .ok (.iconst 0, 1) := by decide +kernel
theorem dX2_surelyBy_68 : decode cX2_surelyBy 68 = .ok (.istore 7, 2) := by decide +kernel
theorem dX2_surelyBy_70 : decode cX2_surelyBy 70 = .ok (.iload 7, 2) := by decide +kernel
theorem dX2_surelyBy_72 : decode cX2_surelyBy 72 = .ok (.ifCond .eq 11, 3) := by decide +kernel
theorem dX2_surelyBy_75 : decode cX2_surelyBy 75 = .ok (.iload 5, 2) := by decide +kernel
theorem dX2_surelyBy_77 : decode cX2_surelyBy 77 = .ok (.iload 6, 2) := by decide +kernel
theorem dX2_surelyBy_79 : decode cX2_surelyBy 79 = .ok (.ior, 1) := by decide +kernel
theorem dX2_surelyBy_80 : decode cX2_surelyBy 80 = .ok (.goto 5, 3) := by decide +kernel
theorem dX2_surelyBy_83 : decode cX2_surelyBy 83 = .ok (.iload 5, 2) := by decide +kernel
theorem dX2_surelyBy_85 : decode cX2_surelyBy 85 = .ok (.ireturn, 1) := by decide +kernel
def fX2_surelyBy_68 (F : Nat) (a0_paints : Int32) (a0_paintsOf0 : Int32) (a0_paintsOf1 : Int32) (p1 : Int32) (p2 : Int32)  (x17 : Int32) (x18 : Int32) (s19 : Int32) : Option (Int32) :=
(if s19 = 0 then
(some (x17))
else
(some (x17 ||| x18)))
def fX2_surelyBy_30 (F : Nat) (a0_paints : Int32) (a0_paintsOf0 : Int32) (a0_paintsOf1 : Int32) (p1 : Int32) (p2 : Int32)  (s7 : Int32) : Option (Int32) :=
((fX2_byOneAlone F a0_paints a0_paintsOf0 a0_paintsOf1 p1 p2).bind fun r8 =>
((fX2_byEither F a0_paints a0_paintsOf0 a0_paintsOf1 p1).bind fun r10 =>
((fJ6_bitCount_0f7a4 r8).bind fun r12 =>
((fJ6_bitCount_0f7a4 r10).bind fun r14 =>
(if (s7 - r12) = r14 then
(fX2_surelyBy_68 F a0_paints a0_paintsOf0 a0_paintsOf1 p1 p2 r8 r10 ((1 : Int32)))
else
(fX2_surelyBy_68 F a0_paints a0_paintsOf0 a0_paintsOf1 p1 p2 r8 r10 ((0 : Int32))))))))
def fX2_surelyBy (F : Nat) (a0_paints : Int32) (a0_paintsOf0 : Int32) (a0_paintsOf1 : Int32) (p1 : Int32) (p2 : Int32) : Option (Int32) :=
((fX2_ordersOf F a0_paints a0_paintsOf0 a0_paintsOf1 p1).bind fun r1 =>
(if r1 = 0 then
(some ((0 : Int32)))
else
((fJ6_bitCount_0f7a4 p1).bind fun r4 =>
(if p2 = 0 then
(fX2_surelyBy_30 F a0_paints a0_paintsOf0 a0_paintsOf1 p1 p2 (r4 - (r4 / ((2 : Int32)))))
else
(fX2_surelyBy_30 F a0_paints a0_paintsOf0 a0_paintsOf1 p1 p2 (r4 / ((2 : Int32))))))))
def oX2_surelyBy (D : jv_D) (h_a0 : Nat) (h_a0_ruledOut : Nat) (a0_rows : Int32) (a0_columns : Int32) (a0_paints : Int32) (a0_apart : Int32) (a0_paintsOf0 : Int32) (a0_paintsOf1 : Int32) (a0_old : Int32) (a0_shut : Int32) (a0_all : Int32) (a0_firstColumn : Int32) (a0_fitsAtFirst : Int32) (a0_paintingsOf0 : Int32) (a0_paintingsOf1 : Int32) (r : Int32) : va_W := [(h_a0, .inr (2, [.int a0_rows, .int a0_columns, .int a0_paints, .int a0_apart, .int a0_paintsOf0, .int a0_paintsOf1, .int a0_old, .int a0_shut, .int a0_all, .int a0_firstColumn, .int a0_fitsAtFirst, .int a0_paintingsOf0, .int a0_paintingsOf1, .ref h_a0_ruledOut]))]
set_option maxHeartbeats 40000000 in
set_option maxRecDepth 100000 in
theorem mX2_surelyBy (l : Launch) (D : jv_D) (F : Nat) (h_a0 : Nat) (h_a0_ruledOut : Nat) (a0_rows : Int32) (a0_columns : Int32) (a0_paints : Int32) (a0_apart : Int32) (a0_paintsOf0 : Int32) (a0_paintsOf1 : Int32) (a0_old : Int32) (a0_shut : Int32) (a0_all : Int32) (a0_firstColumn : Int32) (a0_fitsAtFirst : Int32) (a0_paintingsOf0 : Int32) (a0_paintingsOf1 : Int32) (p1 : Int32) (p2 : Int32) (r : Int32) (h : fX2_surelyBy F a0_paints a0_paintsOf0 a0_paintsOf1 p1 p2 = some r) : MM l yX2_surelyBy (jW yX2_surelyBy cX2_surelyBy 8 (some .int)) ({ frames := 4, cells := 0, slots := 0, locals := 91 }) D [.ref h_a0, .int p1, .int p2] [(h_a0, .inr (2, [.int a0_rows, .int a0_columns, .int a0_paints, .int a0_apart, .int a0_paintsOf0, .int a0_paintsOf1, .int a0_old, .int a0_shut, .int a0_all, .int a0_firstColumn, .int a0_fitsAtFirst, .int a0_paintingsOf0, .int a0_paintingsOf1, .ref h_a0_ruledOut]))] (some (.int r)) (oX2_surelyBy D h_a0 h_a0_ruledOut a0_rows a0_columns a0_paints a0_apart a0_paintsOf0 a0_paintsOf1 a0_old a0_shut a0_all a0_firstColumn a0_fitsAtFirst a0_paintingsOf0 a0_paintingsOf1 r) := by
  refine mn_of hpX2_surelyBy (Nat.le_of_ble_eq_true rfl) ?_
  intro X hXl C E0 hN
  subst hXl
  replace C : JC D X 8 RX2 cX2_surelyBy ({ frames := 4, cells := 0, slots := 0, locals := 91 }) := C
  have E : JE D X 0 0 (some .int) (fun _ : Unit => (some (.int r))) (fun _ : Unit => (oX2_surelyBy D h_a0 h_a0_ruledOut a0_rows a0_columns a0_paints a0_apart a0_paintsOf0 a0_paintsOf1 a0_old a0_shut a0_all a0_firstColumn a0_fitsAtFirst a0_paintingsOf0 a0_paintingsOf1 r)) := E0 0 0 rfl rfl
  clear E0 hN
  show JJ D X 8 0 0 0 [(0, .ref h_a0), (1, .int p1), (2, .int p2)] [] [(h_a0, .inr (2, [.int a0_rows, .int a0_columns, .int a0_paints, .int a0_apart, .int a0_paintsOf0, .int a0_paintsOf1, .int a0_old, .int a0_shut, .int a0_all, .int a0_firstColumn, .int a0_fitsAtFirst, .int a0_paintingsOf0, .int a0_paintingsOf1, .ref h_a0_ruledOut]))]
  unfold fX2_surelyBy at h
  have L68 : ∀ (x17 : Int32) (x18 : Int32) (s19 : Int32), fX2_surelyBy_68 F a0_paints a0_paintsOf0 a0_paintsOf1 p1 p2  x17 x18 s19 = some r → JJ D X 8 0 0 68 [(5, .int x17), (6, .int x18)] [.int s19] [(h_a0, .inr (2, [.int a0_rows, .int a0_columns, .int a0_paints, .int a0_apart, .int a0_paintsOf0, .int a0_paintsOf1, .int a0_old, .int a0_shut, .int a0_all, .int a0_firstColumn, .int a0_fitsAtFirst, .int a0_paintingsOf0, .int a0_paintingsOf1, .ref h_a0_ruledOut]))] := by
    intro x17 x18 s19 h
    unfold fX2_surelyBy_68 at h
    refine j_istoreC C dX2_surelyBy_68 (lv' := [(7, .int s19), (5, .int x17), (6, .int x18)]) (by decide) rfl ?_
    refine j_iload C dX2_surelyBy_70 0 rfl ?_
    refine j_if_eq C (tgt := 83) dX2_surelyBy_72 (by decide) h (fun c20 h => ?_) (fun c20 h => ?_)
    · refine j_iload C dX2_surelyBy_83 1 rfl ?_
      exact j_iretR C (r := r) (rtf := fun r => (some (.int r))) (wff := fun r => (oX2_surelyBy D h_a0 h_a0_ruledOut a0_rows a0_columns a0_paints a0_apart a0_paintsOf0 a0_paintsOf1 a0_old a0_shut a0_all a0_firstColumn a0_fitsAtFirst a0_paintingsOf0 a0_paintingsOf1 r)) E h rfl rfl dX2_surelyBy_85
    · refine j_iload C dX2_surelyBy_75 1 rfl ?_
      refine j_iload C dX2_surelyBy_77 2 rfl ?_
      refine j_ior C dX2_surelyBy_79 ?_
      refine j_goto C dX2_surelyBy_80 (tgt := 85) (by decide) ?_
      exact j_iretR C (r := r) (rtf := fun r => (some (.int r))) (wff := fun r => (oX2_surelyBy D h_a0 h_a0_ruledOut a0_rows a0_columns a0_paints a0_apart a0_paintsOf0 a0_paintsOf1 a0_old a0_shut a0_all a0_firstColumn a0_fitsAtFirst a0_paintingsOf0 a0_paintingsOf1 r)) E h rfl rfl dX2_surelyBy_85
  have L30 : ∀ (s7 : Int32), fX2_surelyBy_30 F a0_paints a0_paintsOf0 a0_paintsOf1 p1 p2  s7 = some r → JJ D X 8 0 0 30 [(0, .ref h_a0), (1, .int p1), (2, .int p2)] [.int s7] [(h_a0, .inr (2, [.int a0_rows, .int a0_columns, .int a0_paints, .int a0_apart, .int a0_paintsOf0, .int a0_paintsOf1, .int a0_old, .int a0_shut, .int a0_all, .int a0_firstColumn, .int a0_fitsAtFirst, .int a0_paintingsOf0, .int a0_paintingsOf1, .ref h_a0_ruledOut]))] := by
    intro s7 h
    unfold fX2_surelyBy_30 at h
    refine j_istoreC C dX2_surelyBy_30 (lv' := [(4, .int s7), (0, .ref h_a0), (1, .int p1), (2, .int p2)]) (by decide) rfl ?_
    refine j_aload_n C dX2_surelyBy_32 rfl 1 rfl ?_
    refine j_iload_n C dX2_surelyBy_33 rfl 2 rfl ?_
    refine j_iload_n C dX2_surelyBy_34 rfl 3 rfl ?_
    obtain ⟨r8, q9, h⟩ := jl_bind h
    refine j_cS1 C (mX2_byOneAlone (jlaunch X) D F h_a0 h_a0_ruledOut a0_rows a0_columns a0_paints a0_apart a0_paintsOf0 a0_paintsOf1 a0_old a0_shut a0_all a0_firstColumn a0_fitsAtFirst a0_paintingsOf0 a0_paintingsOf1 p1 p2 r8 q9) bmX2_21 btX2_byOneAlone bzX2 bcX2_byOneAlone hX2_byOneAlone (rest := []) rfl (jroom_of rfl) [0] [] [0] (wr := []) (ws2 := [(h_a0, .inr (2, [.int a0_rows, .int a0_columns, .int a0_paints, .int a0_apart, .int a0_paintsOf0, .int a0_paintsOf1, .int a0_old, .int a0_shut, .int a0_all, .int a0_firstColumn, .int a0_fitsAtFirst, .int a0_paintingsOf0, .int a0_paintingsOf1, .ref h_a0_ruledOut]))]) rfl rfl rfl rfl rfl (Nat.le_of_ble_eq_true rfl) dX2_surelyBy_35 ?_
    refine j_istoreC C dX2_surelyBy_38 (lv' := [(5, .int r8), (4, .int s7), (0, .ref h_a0), (1, .int p1), (2, .int p2)]) (by decide) rfl ?_
    refine j_aload_n C dX2_surelyBy_40 rfl 2 rfl ?_
    refine j_iload_n C dX2_surelyBy_41 rfl 3 rfl ?_
    obtain ⟨r10, q11, h⟩ := jl_bind h
    refine j_cS1 C (mX2_byEither (jlaunch X) D F h_a0 h_a0_ruledOut a0_rows a0_columns a0_paints a0_apart a0_paintsOf0 a0_paintsOf1 a0_old a0_shut a0_all a0_firstColumn a0_fitsAtFirst a0_paintingsOf0 a0_paintingsOf1 p1 r10 q11) bmX2_15 btX2_byEither bzX2 bcX2_byEither hX2_byEither (rest := []) rfl (jroom_of rfl) [0] [] [0] (wr := []) (ws2 := [(h_a0, .inr (2, [.int a0_rows, .int a0_columns, .int a0_paints, .int a0_apart, .int a0_paintsOf0, .int a0_paintsOf1, .int a0_old, .int a0_shut, .int a0_all, .int a0_firstColumn, .int a0_fitsAtFirst, .int a0_paintingsOf0, .int a0_paintingsOf1, .ref h_a0_ruledOut]))]) rfl rfl rfl rfl rfl (Nat.le_of_ble_eq_true rfl) dX2_surelyBy_42 ?_
    refine j_istoreC C dX2_surelyBy_45 (lv' := [(6, .int r10), (5, .int r8), (4, .int s7), (0, .ref h_a0), (1, .int p1), (2, .int p2)]) (by decide) rfl ?_
    refine j_iload C dX2_surelyBy_47 2 rfl ?_
    refine j_iload C dX2_surelyBy_49 1 rfl ?_
    obtain ⟨r12, q13, h⟩ := jl_bind h
    refine j_cS1 C (mJ6_bitCount_0f7a4 (jlaunch X) D r8 r12 q13) bmX2_9 btJ6_bitCount_0f7a4 bzJ6 bcJ6_bitCount_0f7a4 hJ6_bitCount_0f7a4 (rest := [.int s7]) rfl (jroom_of rfl) [] [0] [0] (wr := [(h_a0, .inr (2, [.int a0_rows, .int a0_columns, .int a0_paints, .int a0_apart, .int a0_paintsOf0, .int a0_paintsOf1, .int a0_old, .int a0_shut, .int a0_all, .int a0_firstColumn, .int a0_fitsAtFirst, .int a0_paintingsOf0, .int a0_paintingsOf1, .ref h_a0_ruledOut]))]) (ws2 := [(h_a0, .inr (2, [.int a0_rows, .int a0_columns, .int a0_paints, .int a0_apart, .int a0_paintsOf0, .int a0_paintsOf1, .int a0_old, .int a0_shut, .int a0_all, .int a0_firstColumn, .int a0_fitsAtFirst, .int a0_paintingsOf0, .int a0_paintingsOf1, .ref h_a0_ruledOut]))]) rfl rfl rfl rfl rfl (Nat.le_of_ble_eq_true rfl) dX2_surelyBy_51 ?_
    refine j_isub C dX2_surelyBy_54 ?_
    refine j_iload C dX2_surelyBy_55 0 rfl ?_
    obtain ⟨r14, q15, h⟩ := jl_bind h
    refine j_cS1 C (mJ6_bitCount_0f7a4 (jlaunch X) D r10 r14 q15) bmX2_9 btJ6_bitCount_0f7a4 bzJ6 bcJ6_bitCount_0f7a4 hJ6_bitCount_0f7a4 (rest := [.int (s7 - r12)]) rfl (jroom_of rfl) [] [0] [0] (wr := [(h_a0, .inr (2, [.int a0_rows, .int a0_columns, .int a0_paints, .int a0_apart, .int a0_paintsOf0, .int a0_paintsOf1, .int a0_old, .int a0_shut, .int a0_all, .int a0_firstColumn, .int a0_fitsAtFirst, .int a0_paintingsOf0, .int a0_paintingsOf1, .ref h_a0_ruledOut]))]) (ws2 := [(h_a0, .inr (2, [.int a0_rows, .int a0_columns, .int a0_paints, .int a0_apart, .int a0_paintsOf0, .int a0_paintsOf1, .int a0_old, .int a0_shut, .int a0_all, .int a0_firstColumn, .int a0_fitsAtFirst, .int a0_paintingsOf0, .int a0_paintingsOf1, .ref h_a0_ruledOut]))]) rfl rfl rfl rfl rfl (Nat.le_of_ble_eq_true rfl) dX2_surelyBy_57 ?_
    refine j_icmp_ne C (tgt := 67) dX2_surelyBy_60 (by decide) h (fun c16 h => ?_) (fun c16 h => ?_)
    · refine j_iconst C dX2_surelyBy_63 (v := (1 : Int32)) (by decide) ?_
      refine j_goto C dX2_surelyBy_64 (tgt := 68) (by decide) ?_
      refine j_sub (lv' := [(5, .int r8), (6, .int r10)]) [1, 0] rfl ?_
      exact L68 r8 r10 ((1 : Int32)) h
    · refine j_iconst C dX2_surelyBy_67 (v := (0 : Int32)) (by decide) ?_
      refine j_sub (lv' := [(5, .int r8), (6, .int r10)]) [1, 0] rfl ?_
      exact L68 r8 r10 ((0 : Int32)) h
  refine j_aload_n C dX2_surelyBy_0 rfl 0 rfl ?_
  refine j_iload_n C dX2_surelyBy_1 rfl 1 rfl ?_
  obtain ⟨r1, q2, h⟩ := jl_bind h
  refine j_cS1 C (mX2_ordersOf (jlaunch X) D F h_a0 h_a0_ruledOut a0_rows a0_columns a0_paints a0_apart a0_paintsOf0 a0_paintsOf1 a0_old a0_shut a0_all a0_firstColumn a0_fitsAtFirst a0_paintingsOf0 a0_paintingsOf1 p1 r1 q2) bmX2_35 btX2_ordersOf bzX2 bcX2_ordersOf hX2_ordersOf (rest := []) rfl (jroom_of rfl) [0] [] [0] (wr := []) (ws2 := [(h_a0, .inr (2, [.int a0_rows, .int a0_columns, .int a0_paints, .int a0_apart, .int a0_paintsOf0, .int a0_paintsOf1, .int a0_old, .int a0_shut, .int a0_all, .int a0_firstColumn, .int a0_fitsAtFirst, .int a0_paintingsOf0, .int a0_paintingsOf1, .ref h_a0_ruledOut]))]) rfl rfl rfl rfl rfl (Nat.le_of_ble_eq_true rfl) dX2_surelyBy_2 ?_
  refine j_if_ne C (tgt := 10) dX2_surelyBy_5 (by decide) h (fun c3 h => ?_) (fun c3 h => ?_)
  · refine j_iconst C dX2_surelyBy_8 (v := (0 : Int32)) (by decide) ?_
    exact j_iretR C (r := r) (rtf := fun r => (some (.int r))) (wff := fun r => (oX2_surelyBy D h_a0 h_a0_ruledOut a0_rows a0_columns a0_paints a0_apart a0_paintsOf0 a0_paintsOf1 a0_old a0_shut a0_all a0_firstColumn a0_fitsAtFirst a0_paintingsOf0 a0_paintingsOf1 r)) E h rfl rfl dX2_surelyBy_9
  · refine j_iload_n C dX2_surelyBy_10 rfl 1 rfl ?_
    obtain ⟨r4, q5, h⟩ := jl_bind h
    refine j_cS1 C (mJ6_bitCount_0f7a4 (jlaunch X) D p1 r4 q5) bmX2_9 btJ6_bitCount_0f7a4 bzJ6 bcJ6_bitCount_0f7a4 hJ6_bitCount_0f7a4 (rest := []) rfl (jroom_of rfl) [] [0] [0] (wr := [(h_a0, .inr (2, [.int a0_rows, .int a0_columns, .int a0_paints, .int a0_apart, .int a0_paintsOf0, .int a0_paintsOf1, .int a0_old, .int a0_shut, .int a0_all, .int a0_firstColumn, .int a0_fitsAtFirst, .int a0_paintingsOf0, .int a0_paintingsOf1, .ref h_a0_ruledOut]))]) (ws2 := [(h_a0, .inr (2, [.int a0_rows, .int a0_columns, .int a0_paints, .int a0_apart, .int a0_paintsOf0, .int a0_paintsOf1, .int a0_old, .int a0_shut, .int a0_all, .int a0_firstColumn, .int a0_fitsAtFirst, .int a0_paintingsOf0, .int a0_paintingsOf1, .ref h_a0_ruledOut]))]) rfl rfl rfl rfl rfl (Nat.le_of_ble_eq_true rfl) dX2_surelyBy_11 ?_
    refine j_istore_nC C dX2_surelyBy_14 rfl (lv' := [(3, .int r4), (0, .ref h_a0), (1, .int p1), (2, .int p2)]) (by decide) rfl ?_
    refine j_iload_n C dX2_surelyBy_15 rfl 3 rfl ?_
    refine j_if_ne C (tgt := 27) dX2_surelyBy_16 (by decide) h (fun c6 h => ?_) (fun c6 h => ?_)
    · refine j_iload_n C dX2_surelyBy_19 rfl 0 rfl ?_
      refine j_iload_n C dX2_surelyBy_20 rfl 0 rfl ?_
      refine j_iconst C dX2_surelyBy_21 (v := (2 : Int32)) (by decide) ?_
      refine j_idiv C dX2_surelyBy_22 (by decide) ?_
      refine j_isub C dX2_surelyBy_23 ?_
      refine j_goto C dX2_surelyBy_24 (tgt := 30) (by decide) ?_
      refine j_sub (lv' := [(0, .ref h_a0), (1, .int p1), (2, .int p2)]) [1, 2, 3] rfl ?_
      exact L30 (r4 - (r4 / ((2 : Int32)))) h
    · refine j_iload_n C dX2_surelyBy_27 rfl 0 rfl ?_
      refine j_iconst C dX2_surelyBy_28 (v := (2 : Int32)) (by decide) ?_
      refine j_idiv C dX2_surelyBy_29 (by decide) ?_
      refine j_sub (lv' := [(0, .ref h_a0), (1, .int p1), (2, .int p2)]) [1, 2, 3] rfl ?_
      exact L30 (r4 / ((2 : Int32))) h
