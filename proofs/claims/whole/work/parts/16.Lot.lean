theorem dX1_init_0 : decode cX1_init 0 = .ok (.aload_n 0, 1) := by decide +kernel
theorem dX1_init_1 : decode cX1_init 1 = .ok (.invokespecial 3, 3) := by decide +kernel
theorem dX1_init_4 : decode cX1_init 4 = .ok (.return_, 1) := by decide +kernel
def fX1_init  : Option (Int64 × Int64) :=
(some ((0 : Int64), (0 : Int64)))
set_option maxHeartbeats 40000000 in
set_option maxRecDepth 100000 in
theorem mX1_init (l : Launch) (D : jv_D) (h_t : Nat) (r : Int64 × Int64) (h : fX1_init  = some r) : MN l yX1_init (jW yX1_init cX1_init 1 none) ({ frames := 1, cells := 0, slots := 0, locals := 64 }) D [.ref h_t] [(h_t, .inr (1, [.long ((0 : Int64)), .long ((0 : Int64))]))] 0 0 (fun _ : Unit => none) (fun u : Unit => [(h_t, .inr (1, [.long r.1, .long r.2]))]) := by
  refine mn_of hpX1_init (Nat.le_of_ble_eq_true rfl) ?_
  intro X hXl C E hN
  subst hXl
  replace C : JC D X 1 RX1 cX1_init ({ frames := 1, cells := 0, slots := 0, locals := 64 }) := C
  show JJ D X 1 0 0 0 [(0, .ref h_t)] [] [(h_t, .inr (1, [.long ((0 : Int64)), .long ((0 : Int64))]))]
  unfold fX1_init at h
  refine j_aload_n C dX1_init_0 rfl 0 rfl ?_
  refine j_objInit C bmX1_3 boi boc dX1_init_1 ⟨Nat.le_of_ble_eq_true rfl, Nat.le_of_ble_eq_true rfl⟩ ?_
  obtain rfl := jl_some h
  exact j_vret C (E _ _ rfl rfl) () rfl rfl dX1_init_4
theorem dX1_commonPart_0 : decode cX1_commonPart 0 = .ok (.lload_n 0, 1) := by decide +kernel
theorem dX1_commonPart_1 : decode cX1_commonPart 1 = .ok (.lstore 4, 2) := by decide +kernel
theorem dX1_commonPart_3 : decode cX1_commonPart 3 = .ok (.lload_n 2, 1) := by decide +kernel
theorem dX1_commonPart_4 : decode cX1_commonPart 4 = .ok (.lstore 6, 2) := by decide +kernel
theorem dX1_commonPart_6 : decode cX1_commonPart 6 = .ok (.iconst 0, 1) := by decide +kernel
theorem dX1_commonPart_7 : decode cX1_commonPart 7 = .ok (.istore 8, 2) := by decide +kernel
theorem dX1_commonPart_9 : decode cX1_commonPart 9 = .ok (.iload 8, 2) := by decide +kernel
theorem dX1_commonPart_11 : decode cX1_commonPart 11 = .ok (.bipush 100, 2) := by decide +kernel
theorem dX1_commonPart_13 : decode cX1_commonPart 13 = .ok (.if_icmp .ge 31, 3) := by decide +kernel
theorem dX1_commonPart_16 : decode cX1_commonPart 16 = .ok (.lload 6, 2) := by decide +kernel
theorem dX1_commonPart_18 : decode cX1_commonPart 18 = .ok (.lconst 0, 1) := by decide +kernel
theorem dX1_commonPart_19 : decode cX1_commonPart 19 = .ok (.lcmp, 1) := by decide +kernel
theorem dX1_commonPart_20 : decode cX1_commonPart 20 = .ok (.ifCond .eq 24, 3) := by decide +kernel
theorem dX1_commonPart_23 : decode cX1_commonPart 23 = .ok (.lload 4, 2) := by decide +kernel
theorem dX1_commonPart_25 : decode cX1_commonPart 25 = .ok (.lload 6, 2) := by decide +kernel
theorem dX1_commonPart_27 : decode cX1_commonPart 27 = .ok (.lrem, 1) := by decide +kernel
theorem dX1_commonPart_28 : decode cX1_commonPart 28 = .ok (.lstore 9, 2) := by decide +kernel
theorem dX1_commonPart_30 : decode cX1_commonPart 30 = .ok (.lload 6, 2) := by decide +kernel
theorem dX1_commonPart_32 : decode cX1_commonPart 32 = .ok (.lstore 4, 2) := by decide +kernel
theorem dX1_commonPart_34 : decode cX1_commonPart 34 = .ok (.lload 9, 2) := by decide +kernel
theorem dX1_commonPart_36 : decode cX1_commonPart 36 = .ok (.lstore 6, 2) := by decide +kernel
theorem dX1_commonPart_38 : decode cX1_commonPart 38 = .ok (.iinc 8 1, 3) := by decide +kernel
theorem dX1_commonPart_41 : decode cX1_commonPart 41 = .ok (.goto (-32), 3) := by decide +kernel
theorem dX1_commonPart_44 : decode cX1_commonPart 44 = .ok (.lload 4, 2) := by decide +kernel
theorem dX1_commonPart_46 : decode cX1_commonPart 46 = .ok (.lreturn, 1) := by decide +kernel
def bX1_commonPart_9 (F : Nat) (p0 : Int64) (p2 : Int64)  (k9 : Int64 → Int64 → Int32 → Option (Int64)) (x1 : Int64) (x2 : Int64) (x3 : Int32) : Option (Int64) :=
(if ((100 : Int32)) ≤ x3 then
(some (x1))
else
(if (lg_cmp x2 ((0 : Int64))) = 0 then
(some (x1))
else
(if x2 = 0 then none else
(jl_let (x1 - x1 / x2 * x2) fun v7 =>
(jl_let (x3 + Int32.ofInt (1)) fun v8 =>
(k9 x2 v7 v8))))))
def lX1_commonPart_9 (F : Nat) (p0 : Int64) (p2 : Int64)  (F2 : Nat) (x1 : Int64) (x2 : Int64) (x3 : Int32) : Option (Int64) := jl_loop3 (bX1_commonPart_9 F p0 p2 ) F2 x1 x2 x3
def fX1_commonPart (F : Nat) (p0 : Int64) (p2 : Int64) : Option (Int64) :=
(lX1_commonPart_9 F p0 p2 F p0 p2 ((0 : Int32)))
def oX1_commonPart (D : jv_D)  (r : Int64) : va_W := []
set_option maxHeartbeats 40000000 in
set_option maxRecDepth 100000 in
theorem mX1_commonPart (l : Launch) (D : jv_D) (F : Nat) (p0 : Int64) (p2 : Int64) (r : Int64) (h : fX1_commonPart F p0 p2 = some r) : MM l yX1_commonPart (jW yX1_commonPart cX1_commonPart 11 (some .long)) ({ frames := 0, cells := 0, slots := 0, locals := 0 }) D [.long p0, .long p2] [] (some (.long r)) (oX1_commonPart D  r) := by
  refine mn_of hpX1_commonPart (Nat.le_of_ble_eq_true rfl) ?_
  intro X hXl C E0 hN
  subst hXl
  replace C : JC D X 11 RX1 cX1_commonPart ({ frames := 0, cells := 0, slots := 0, locals := 0 }) := C
  have E : JE D X 0 0 (some .long) (fun _ : Unit => (some (.long r))) (fun _ : Unit => (oX1_commonPart D  r)) := E0 0 0 rfl rfl
  clear E0 hN
  show JJ D X 11 0 0 0 [(0, .long p0), (2, .long p2)] [] []
  unfold fX1_commonPart at h
  have L9 : ∀ (x1 : Int64) (x2 : Int64) (x3 : Int32), lX1_commonPart_9 F p0 p2  F x1 x2 x3 = some r → JJ D X 11 0 0 9 [(4, .long x1), (6, .long x2), (8, .int x3)] [] [] := by
    intro x1 x2 x3 h
    refine jl_ind3 (fun x1 x2 x3 => JJ D X 11 0 0 9 [(4, .long x1), (6, .long x2), (8, .int x3)] [] []) ?_ F x1 x2 x3 h
    clear h x1 x2 x3
    intro k9 i9 x1 x2 x3 h
    replace i9 : ∀ (x1 : Int64) (x2 : Int64) (x3 : Int32), k9 x1 x2 x3 = some r → JJ D X 11 0 0 9 [(4, .long x1), (6, .long x2), (8, .int x3)] [] [] := i9
    show JJ D X 11 0 0 9 [(4, .long x1), (6, .long x2), (8, .int x3)] [] []
    unfold bX1_commonPart_9 at h
    refine j_iload C dX1_commonPart_9 2 rfl ?_
    refine j_bipush C dX1_commonPart_11 (v := (100 : Int32)) (by decide) ?_
    refine j_icmp_ge C (tgt := 44) dX1_commonPart_13 (by decide) h (fun c4 h => ?_) (fun c4 h => ?_)
    · refine j_lload C dX1_commonPart_44 0 rfl ?_
      exact j_lretR C (r := r) (rtf := fun r => (some (.long r))) (wff := fun r => (oX1_commonPart D  r)) E h rfl rfl dX1_commonPart_46
    · refine j_lload C dX1_commonPart_16 1 rfl ?_
      refine j_lconst C dX1_commonPart_18 (v := (0 : Int64)) (by decide) ?_
      refine j_lcmp C dX1_commonPart_19 ?_
      refine j_if_eq C (tgt := 44) dX1_commonPart_20 (by decide) h (fun c5 h => ?_) (fun c5 h => ?_)
      · refine j_lload C dX1_commonPart_44 0 rfl ?_
        exact j_lretR C (r := r) (rtf := fun r => (some (.long r))) (wff := fun r => (oX1_commonPart D  r)) E h rfl rfl dX1_commonPart_46
      · refine j_lload C dX1_commonPart_23 0 rfl ?_
        refine j_lload C dX1_commonPart_25 1 rfl ?_
        refine jl_grd h (fun b6 h => ?_)
        refine j_lrem C dX1_commonPart_27 b6 ?_
        refine j_lstore C dX1_commonPart_28 (lv' := fun v7 => [(9, .long v7), (4, .long x1), (6, .long x2), (8, .int x3)]) (by decide) (fun _ => rfl) h (fun v7 h => ?_)
        refine j_lload C dX1_commonPart_30 2 rfl ?_
        refine j_lstoreC C dX1_commonPart_32 (lv' := [(4, .long x2), (9, .long v7), (6, .long x2), (8, .int x3)]) (by decide) rfl ?_
        refine j_lload C dX1_commonPart_34 1 rfl ?_
        refine j_lstoreC C dX1_commonPart_36 (lv' := [(6, .long v7), (4, .long x2), (9, .long v7), (8, .int x3)]) (by decide) rfl ?_
        refine j_iinc C dX1_commonPart_38 3 rfl (lv' := fun v8 => [(8, .int v8), (6, .long v7), (4, .long x2), (9, .long v7)]) (by decide) (fun _ => rfl) h (fun v8 h => ?_)
        refine j_goto C dX1_commonPart_41 (tgt := 9) (by decide) ?_
        refine j_sub (lv' := [(4, .long x2), (6, .long v7), (8, .int v8)]) [2, 1, 0] rfl ?_
        exact i9 x2 v7 v8 h
  refine j_lload_n C dX1_commonPart_0 rfl 0 rfl ?_
  refine j_lstoreC C dX1_commonPart_1 (lv' := [(4, .long p0), (0, .long p0), (2, .long p2)]) (by decide) rfl ?_
  refine j_lload_n C dX1_commonPart_3 rfl 2 rfl ?_
  refine j_lstoreC C dX1_commonPart_4 (lv' := [(6, .long p2), (4, .long p0), (0, .long p0), (2, .long p2)]) (by decide) rfl ?_
  refine j_iconst C dX1_commonPart_6 (v := (0 : Int32)) (by decide) ?_
  refine j_istoreC C dX1_commonPart_7 (lv' := [(8, .int ((0 : Int32))), (6, .long p2), (4, .long p0), (0, .long p0), (2, .long p2)]) (by decide) rfl ?_
  refine j_sub (lv' := [(4, .long p0), (6, .long p2), (8, .int ((0 : Int32)))]) [2, 1, 0] rfl ?_
  exact L9 p0 p2 ((0 : Int32)) h
theorem dX1_settle_0 : decode cX1_settle 0 = .ok (.lload_n 1, 1) := by decide +kernel
theorem dX1_settle_1 : decode cX1_settle 1 = .ok (.lload_n 3, 1) := by decide +kernel
theorem dX1_settle_2 : decode cX1_settle 2 = .ok (.invokestatic 47, 3) := by decide +kernel
theorem dX1_settle_5 : decode cX1_settle 5 = .ok (.lstore 5, 2) := by decide +kernel
theorem dX1_settle_7 : decode cX1_settle 7 = .ok (.aload_n 0, 1) := by decide +kernel
theorem dX1_settle_8 : decode cX1_settle 8 = .ok (.lload 5, 2) := by decide +kernel
theorem dX1_settle_10 : decode cX1_settle 10 = .ok (.lconst 0, 1) := by decide +kernel
theorem dX1_settle_11 : decode cX1_settle 11 = .ok (.lcmp, 1) := by decide +kernel
theorem dX1_settle_12 : decode cX1_settle 12 = .ok (.ifCond .ne 7, 3) := by decide +kernel
theorem dX1_settle_15 : decode cX1_settle 15 = .ok (.lconst 0, 1) := by decide +kernel
theorem dX1_settle_16 : decode cX1_settle 16 = .ok (.goto 7, 3) := by decide +kernel
theorem dX1_settle_19 : decode cX1_settle 19 = .ok (.lload_n 1, 1) := by decide +kernel
theorem dX1_settle_20 : decode cX1_settle 20 = .ok (.lload 5, 2) := by decide +kernel
theorem dX1_settle_22 : decode cX1_settle 22 = .ok (.ldiv, 1) := by decide +kernel
theorem dX1_settle_23 : decode cX1_settle 23 = .ok (.putfield 21, 3) := by decide +kernel
theorem dX1_settle_26 : decode cX1_settle 26 = .ok (.aload_n 0, 1) := by decide +kernel
theorem dX1_settle_27 : decode cX1_settle 27 = .ok (.lload 5, 2) := by decide +kernel
theorem dX1_settle_29 : decode cX1_settle 29 = .ok (.lconst 0, 1) := by decide +kernel
theorem dX1_settle_30 : decode cX1_settle 30 = .ok (.lcmp, 1) := by decide +kernel
theorem dX1_settle_31 : decode cX1_settle 31 = .ok (.ifCond .ne 7, 3) := by decide +kernel
theorem dX1_settle_34 : decode cX1_settle 34 = .ok (.lconst 1, 1) := by decide +kernel
theorem dX1_settle_35 : decode cX1_settle 35 = .ok (.goto 7, 3) := by decide +kernel
theorem dX1_settle_38 : decode cX1_settle 38 = .ok (.lload_n 3, 1) := by decide +kernel
theorem dX1_settle_39 : decode cX1_settle 39 = .ok (.lload 5, 2) := by decide +kernel
theorem dX1_settle_41 : decode cX1_settle 41 = .ok (.ldiv, 1) := by decide +kernel
theorem dX1_settle_42 : decode cX1_settle 42 = .ok (.putfield 25, 3) := by decide +kernel
theorem dX1_settle_45 : decode cX1_settle 45 = .ok (.return_, 1) := by decide +kernel
def fX1_settle_42 (F : Nat) (p1 : Int64) (p3 : Int64)  (s10 : Int64) (m_t_above_11 : Int64) (m_t_below_12 : Int64) : Option (Int64 × Int64) :=
(some (m_t_above_11, s10))
def fX1_settle_23 (F : Nat) (p1 : Int64) (p3 : Int64)  (x4 : Int64) (s5 : Int64) (m_t_above_6 : Int64) (m_t_below_7 : Int64) : Option (Int64 × Int64) :=
(if (lg_cmp x4 ((0 : Int64))) = 0 then
(fX1_settle_42 F p1 p3 ((1 : Int64)) s5 m_t_below_7)
else
(if x4 = 0 then none else
(fX1_settle_42 F p1 p3 (p3 / x4) s5 m_t_below_7)))
def fX1_settle (F : Nat) (t_above : Int64) (t_below : Int64) (p1 : Int64) (p3 : Int64) : Option (Int64 × Int64) :=
((fX1_commonPart F p1 p3).bind fun r1 =>
(if (lg_cmp r1 ((0 : Int64))) = 0 then
(fX1_settle_23 F p1 p3 r1 ((0 : Int64)) t_above t_below)
else
(if r1 = 0 then none else
(fX1_settle_23 F p1 p3 r1 (p1 / r1) t_above t_below))))
def oX1_settle (D : jv_D) (h_t : Nat) (r : Int64 × Int64) : va_W := [(h_t, .inr (1, [.long r.1, .long r.2]))]
set_option maxHeartbeats 40000000 in
set_option maxRecDepth 100000 in
theorem mX1_settle (l : Launch) (D : jv_D) (F : Nat) (h_t : Nat) (t_above : Int64) (t_below : Int64) (p1 : Int64) (p3 : Int64) (r : Int64 × Int64) (h : fX1_settle F t_above t_below p1 p3 = some r) : MM l yX1_settle (jW yX1_settle cX1_settle 7 none) ({ frames := 1, cells := 0, slots := 0, locals := 30 }) D [.ref h_t, .long p1, .long p3] [(h_t, .inr (1, [.long t_above, .long t_below]))] none (oX1_settle D h_t r) := by
  refine mn_of hpX1_settle (Nat.le_of_ble_eq_true rfl) ?_
  intro X hXl C E0 hN
  subst hXl
  replace C : JC D X 7 RX1 cX1_settle ({ frames := 1, cells := 0, slots := 0, locals := 30 }) := C
  have E : JE D X 0 0 none (fun _ : Unit => none) (fun _ : Unit => (oX1_settle D h_t r)) := E0 0 0 rfl rfl
  clear E0 hN
  show JJ D X 7 0 0 0 [(0, .ref h_t), (1, .long p1), (3, .long p3)] [] [(h_t, .inr (1, [.long t_above, .long t_below]))]
  unfold fX1_settle at h
  have L42 : ∀ (s10 : Int64) (m_t_above_11 : Int64) (m_t_below_12 : Int64), fX1_settle_42 F p1 p3  s10 m_t_above_11 m_t_below_12 = some r → JJ D X 7 0 0 42 [] [.long s10, .ref h_t] [(h_t, .inr (1, [.long m_t_above_11, .long m_t_below_12]))] := by
    intro s10 m_t_above_11 m_t_below_12 h
    unfold fX1_settle_42 at h
    refine j_put C ibX1 tyX1 tyX1_ok nmX1 (ci := 1) 0 rfl rfl 1 (by decide) bfX1_25 rfl rfl rfl (Nat.le_of_ble_eq_true rfl) dX1_settle_42 (ws' := [(h_t, .inr (1, [.long m_t_above_11, .long s10]))]) rfl ?_
    exact j_vretR C (r := r) (rtf := fun r => none) (wff := fun r => (oX1_settle D h_t r)) E h rfl rfl dX1_settle_45
  have L23 : ∀ (x4 : Int64) (s5 : Int64) (m_t_above_6 : Int64) (m_t_below_7 : Int64), fX1_settle_23 F p1 p3  x4 s5 m_t_above_6 m_t_below_7 = some r → JJ D X 7 0 0 23 [(0, .ref h_t), (3, .long p3), (5, .long x4)] [.long s5, .ref h_t] [(h_t, .inr (1, [.long m_t_above_6, .long m_t_below_7]))] := by
    intro x4 s5 m_t_above_6 m_t_below_7 h
    unfold fX1_settle_23 at h
    refine j_put C ibX1 tyX1 tyX1_ok nmX1 (ci := 1) 0 rfl rfl 0 (by decide) bfX1_21 rfl rfl rfl (Nat.le_of_ble_eq_true rfl) dX1_settle_23 (ws' := [(h_t, .inr (1, [.long s5, .long m_t_below_7]))]) rfl ?_
    refine j_aload_n C dX1_settle_26 rfl 0 rfl ?_
    refine j_lload C dX1_settle_27 2 rfl ?_
    refine j_lconst C dX1_settle_29 (v := (0 : Int64)) (by decide) ?_
    refine j_lcmp C dX1_settle_30 ?_
    refine j_if_ne C (tgt := 38) dX1_settle_31 (by decide) h (fun c9 h => ?_) (fun c9 h => ?_)
    · refine j_lconst C dX1_settle_34 (v := (1 : Int64)) (by decide) ?_
      refine j_goto C dX1_settle_35 (tgt := 42) (by decide) ?_
      refine j_sub (lv' := []) [] rfl ?_
      exact L42 ((1 : Int64)) s5 m_t_below_7 h
    · refine j_lload_n C dX1_settle_38 rfl 1 rfl ?_
      refine j_lload C dX1_settle_39 2 rfl ?_
      refine jl_grd h (fun b13 h => ?_)
      refine j_ldiv C dX1_settle_41 b13 ?_
      refine j_sub (lv' := []) [] rfl ?_
      exact L42 (p3 / x4) s5 m_t_below_7 h
  refine j_lload_n C dX1_settle_0 rfl 1 rfl ?_
  refine j_lload_n C dX1_settle_1 rfl 2 rfl ?_
  obtain ⟨r1, q2, h⟩ := jl_bind h
  refine j_cS1 C (mX1_commonPart (jlaunch X) D F p1 p3 r1 q2) bmX1_47 btX1_commonPart bzX1 bcX1_commonPart hX1_commonPart (rest := []) rfl (jroom_of rfl) [] [0] [0] (wr := [(h_t, .inr (1, [.long t_above, .long t_below]))]) (ws2 := [(h_t, .inr (1, [.long t_above, .long t_below]))]) rfl rfl rfl rfl rfl (Nat.le_of_ble_eq_true rfl) dX1_settle_2 ?_
  refine j_lstoreC C dX1_settle_5 (lv' := [(5, .long r1), (0, .ref h_t), (1, .long p1), (3, .long p3)]) (by decide) rfl ?_
  refine j_aload_n C dX1_settle_7 rfl 1 rfl ?_
  refine j_lload C dX1_settle_8 0 rfl ?_
  refine j_lconst C dX1_settle_10 (v := (0 : Int64)) (by decide) ?_
  refine j_lcmp C dX1_settle_11 ?_
  refine j_if_ne C (tgt := 19) dX1_settle_12 (by decide) h (fun c3 h => ?_) (fun c3 h => ?_)
  · refine j_lconst C dX1_settle_15 (v := (0 : Int64)) (by decide) ?_
    refine j_goto C dX1_settle_16 (tgt := 23) (by decide) ?_
    refine j_sub (lv' := [(0, .ref h_t), (3, .long p3), (5, .long r1)]) [1, 3, 0] rfl ?_
    exact L23 r1 ((0 : Int64)) t_above t_below h
  · refine j_lload_n C dX1_settle_19 rfl 2 rfl ?_
    refine j_lload C dX1_settle_20 0 rfl ?_
    refine jl_grd h (fun b8 h => ?_)
    refine j_ldiv C dX1_settle_22 b8 ?_
    refine j_sub (lv' := [(0, .ref h_t), (3, .long p3), (5, .long r1)]) [1, 3, 0] rfl ?_
    exact L23 r1 (p1 / r1) t_above t_below h
theorem dX1_weighAll_0 : decode cX1_weighAll 0 = .ok (.iload_n 2, 1) := by decide +kernel
theorem dX1_weighAll_1 : decode cX1_weighAll 1 = .ok (.aload_n 1, 1) := by decide +kernel
theorem dX1_weighAll_2 : decode cX1_weighAll 2 = .ok (.iload_n 3, 1) := by decide +kernel
theorem dX1_weighAll_3 : decode cX1_weighAll 3 = .ok (.invokevirtual 28, 3) := by decide +kernel
theorem dX1_weighAll_6 : decode cX1_weighAll 6 = .ok (.iand, 1) := by decide +kernel
theorem dX1_weighAll_7 : decode cX1_weighAll 7 = .ok (.istore 5, 2) := by decide +kernel
theorem dX1_weighAll_9 : decode cX1_weighAll 9 = .ok (.lconst 0, 1) := by decide +kernel
theorem dX1_weighAll_10 : decode cX1_weighAll 10 = .ok (.lstore 6, 2) := by decide +kernel
theorem dX1_weighAll_12 : decode cX1_weighAll 12 = .ok (.lconst 1, 1) := by decide +kernel
theorem dX1_weighAll_13 : decode cX1_weighAll 13 = .ok (.lstore 8, 2) := by decide +kernel
theorem dX1_weighAll_15 : decode cX1_weighAll 15 = .ok (.iconst 0, 1) := by decide +kernel
theorem dX1_weighAll_16 : decode cX1_weighAll 16 = .ok (.istore 10, 2) := by decide +kernel
theorem dX1_weighAll_18 : decode cX1_weighAll 18 = .ok (.iload 10, 2) := by decide +kernel
theorem dX1_weighAll_20 : decode cX1_weighAll 20 = .ok (.bipush 27, 2) := by decide +kernel
theorem dX1_weighAll_22 : decode cX1_weighAll 22 = .ok (.if_icmp .ge 78, 3) := by decide +kernel
theorem dX1_weighAll_25 : decode cX1_weighAll 25 = .ok (.iload 5, 2) := by decide +kernel
theorem dX1_weighAll_27 : decode cX1_weighAll 27 = .ok (.iload 10, 2) := by decide +kernel
theorem dX1_weighAll_29 : decode cX1_weighAll 29 = .ok (.ishr, 1) := by decide +kernel
theorem dX1_weighAll_30 : decode cX1_weighAll 30 = .ok (.iconst 1, 1) := by decide +kernel
theorem dX1_weighAll_31 : decode cX1_weighAll 31 = .ok (.iand, 1) := by decide +kernel
theorem dX1_weighAll_32 : decode cX1_weighAll 32 = .ok (.ifCond .eq 62, 3) := by decide +kernel
theorem dX1_weighAll_35 : decode cX1_weighAll 35 = .ok (.aload_n 0, 1) := by decide +kernel
theorem dX1_weighAll_36 : decode cX1_weighAll 36 = .ok (.aload_n 1, 1) := by decide +kernel
theorem dX1_weighAll_37 : decode cX1_weighAll 37 = .ok (.aload_n 1, 1) := by decide +kernel
theorem dX1_weighAll_38 : decode cX1_weighAll 38 = .ok (.iload_n 2, 1) := by decide +kernel
theorem dX1_weighAll_39 : decode cX1_weighAll 39 = .ok (.iconst 1, 1) := by decide +kernel
theorem dX1_weighAll_40 : decode cX1_weighAll 40 = .ok (.iload 10, 2) := by decide +kernel
theorem dX1_weighAll_42 : decode cX1_weighAll 42 = .ok (.ishl, 1) := by decide +kernel
theorem dX1_weighAll_43 : decode cX1_weighAll 43 = .ok (.invokevirtual 38, 3) := by decide +kernel
theorem dX1_weighAll_46 : decode cX1_weighAll 46 = .ok (.iconst 1, 1) := by decide +kernel
theorem dX1_weighAll_47 : decode cX1_weighAll 47 = .ok (.iload_n 3, 1) := by decide +kernel
theorem dX1_weighAll_48 : decode cX1_weighAll 48 = .ok (.isub, 1) := by decide +kernel
theorem dX1_weighAll_49 : decode cX1_weighAll 49 = .ok (.iload 4, 2) := by decide +kernel
theorem dX1_weighAll_51 : decode cX1_weighAll 51 = .ok (.iconst 1, 1) := by decide +kernel
theorem dX1_weighAll_52 : decode cX1_weighAll 52 = .ok (.isub, 1) := by decide +kernel
theorem dX1_weighAll_53 : decode cX1_weighAll 53 = .ok (.invokevirtual 15, 3) := by decide +kernel
theorem dX1_weighAll_56 : decode cX1_weighAll 56 = .ok (.aload_n 0, 1) := by decide +kernel
theorem dX1_weighAll_57 : decode cX1_weighAll 57 = .ok (.lload 6, 2) := by decide +kernel
theorem dX1_weighAll_59 : decode cX1_weighAll 59 = .ok (.aload_n 0, 1) := by decide +kernel
theorem dX1_weighAll_60 : decode cX1_weighAll 60 = .ok (.getfield 25, 3) := by decide +kernel
theorem dX1_weighAll_63 : decode cX1_weighAll 63 = .ok (.lmul, 1) := by decide +kernel
theorem dX1_weighAll_64 : decode cX1_weighAll 64 = .ok (.aload_n 0, 1) := by decide +kernel
theorem dX1_weighAll_65 : decode cX1_weighAll 65 = .ok (.getfield 21, 3) := by decide +kernel
theorem dX1_weighAll_68 : decode cX1_weighAll 68 = .ok (.lload 8, 2) := by decide +kernel
theorem dX1_weighAll_70 : decode cX1_weighAll 70 = .ok (.lmul, 1) := by decide +kernel
theorem dX1_weighAll_71 : decode cX1_weighAll 71 = .ok (.ladd, 1) := by decide +kernel
theorem dX1_weighAll_72 : decode cX1_weighAll 72 = .ok (.lload 8, 2) := by decide +kernel
theorem dX1_weighAll_74 : decode cX1_weighAll 74 = .ok (.aload_n 0, 1) := by decide +kernel
theorem dX1_weighAll_75 : decode cX1_weighAll 75 = .ok (.getfield 25, 3) := by decide +kernel
theorem dX1_weighAll_78 : decode cX1_weighAll 78 = .ok (.lmul, 1) := by decide +kernel
theorem dX1_weighAll_79 : decode cX1_weighAll 79 = .ok (.invokevirtual 31, 3) := by decide +kernel
theorem dX1_weighAll_82 : decode cX1_weighAll 82 = .ok (.aload_n 0, 1) := by decide +kernel
theorem dX1_weighAll_83 : decode cX1_weighAll 83 = .ok (.getfield 21, 3) := by decide +kernel
theorem dX1_weighAll_86 : decode cX1_weighAll 86 = .ok (.lstore 6, 2) := by decide +kernel
theorem dX1_weighAll_88 : decode cX1_weighAll 88 = .ok (.aload_n 0, 1) := by decide +kernel
theorem dX1_weighAll_89 : decode cX1_weighAll 89 = .ok (.getfield 25, 3) := by decide +kernel
theorem dX1_weighAll_92 : decode cX1_weighAll 92 = .ok (.lstore 8, 2) := by decide +kernel
theorem dX1_weighAll_94 : decode cX1_weighAll 94 = .ok (.iinc 10 1, 3) := by decide +kernel
theorem dX1_weighAll_97 : decode cX1_weighAll 97 = .ok (.goto (-79), 3) := by decide +kernel
theorem dX1_weighAll_100 : decode cX1_weighAll 100 = .ok (.aload_n 0, 1) := by decide +kernel
theorem dX1_weighAll_101 : decode cX1_weighAll 101 = .ok (.lload 6, 2) := by decide +kernel
theorem dX1_weighAll_103 : decode cX1_weighAll 103 = .ok (.lload 8, 2) := by decide +kernel
theorem dX1_weighAll_105 : decode cX1_weighAll 105 = .ok (.iload 5, 2) := by decide +kernel
theorem dX1_weighAll_107 : decode cX1_weighAll 107 = .ok (.invokestatic 42, 3) := by decide +kernel
theorem dX1_weighAll_110 : decode cX1_weighAll 110 = .ok (.i2l, 1) := by decide +kernel
theorem dX1_weighAll_111 : decode cX1_weighAll 111 = .ok (.lmul, 1) := by decide +kernel
theorem dX1_weighAll_112 : decode cX1_weighAll 112 = .ok (.invokevirtual 31, 3) := by decide +kernel
theorem dX1_weighAll_115 : decode cX1_weighAll 115 = .ok (.return_, 1) := by decide +kernel
def bX1_weighAll_18 (F : Nat) (rec : Int64 → Int64 → Int32 → Int32 → (Nat → Int32) → Int32 → Int32 → Int32 → Option (Int64 × Int64)) (a1_paintingsOf0 : Int32) (a1_paintingsOf1 : Int32) (a1_ruledOut_ : Nat → Int32) (p2 : Int32) (p3 : Int32) (p4 : Int32)  (k18 : Int32 → Int64 → Int64 → Int32 → Int64 → Int64 → Option (Int64 × Int64)) (x4 : Int32) (x5 : Int64) (x6 : Int64) (x7 : Int32) (m_t_above_8 : Int64) (m_t_below_9 : Int64) : Option (Int64 × Int64) :=
(if ((27 : Int32)) ≤ x7 then
((fJ6_bitCount_0f7a4 x4).bind fun r11 =>
((fX1_settle F m_t_above_8 m_t_below_9 x5 (x6 * r11.toInt64)).bind fun r13 =>
(some (r13.1, r13.2))))
else
(if ((x4 >>> (x7 &&& 31)) &&& ((1 : Int32))) = 0 then
(jl_let (x7 + Int32.ofInt (1)) fun v16 =>
(k18 x4 x5 x6 v16 m_t_above_8 m_t_below_9))
else
((fX3_fittingAfter a1_ruledOut_ p2 (((1 : Int32)) <<< (x7 &&& 31))).bind fun r17 =>
((rec m_t_above_8 m_t_below_9 a1_paintingsOf0 a1_paintingsOf1 a1_ruledOut_ r17 (((1 : Int32)) - p3) (p4 - ((1 : Int32)))).bind fun r19 =>
((fX1_settle F r19.1 r19.2 ((x5 * r19.2) + (r19.1 * x6)) (x6 * r19.2)).bind fun r21 =>
(jl_let r21.1 fun v23 =>
(jl_let r21.2 fun v24 =>
(jl_let (x7 + Int32.ofInt (1)) fun v25 =>
(k18 x4 v23 v24 v25 r21.1 r21.2)))))))))
def lX1_weighAll_18 (F : Nat) (rec : Int64 → Int64 → Int32 → Int32 → (Nat → Int32) → Int32 → Int32 → Int32 → Option (Int64 × Int64)) (a1_paintingsOf0 : Int32) (a1_paintingsOf1 : Int32) (a1_ruledOut_ : Nat → Int32) (p2 : Int32) (p3 : Int32) (p4 : Int32)  (F2 : Nat) (x4 : Int32) (x5 : Int64) (x6 : Int64) (x7 : Int32) (m_t_above_8 : Int64) (m_t_below_9 : Int64) : Option (Int64 × Int64) := jl_loop6 (bX1_weighAll_18 F rec a1_paintingsOf0 a1_paintingsOf1 a1_ruledOut_ p2 p3 p4 ) F2 x4 x5 x6 x7 m_t_above_8 m_t_below_9
def fX1_weighAll (F : Nat) (rec : Int64 → Int64 → Int32 → Int32 → (Nat → Int32) → Int32 → Int32 → Int32 → Option (Int64 × Int64)) (t_above : Int64) (t_below : Int64) (a1_paintingsOf0 : Int32) (a1_paintingsOf1 : Int32) (a1_ruledOut_ : Nat → Int32) (p2 : Int32) (p3 : Int32) (p4 : Int32) : Option (Int64 × Int64) :=
((fX3_paintingsOf a1_paintingsOf0 a1_paintingsOf1 p3).bind fun r1 =>
(jl_let (p2 &&& r1) fun v3 =>
(lX1_weighAll_18 F rec a1_paintingsOf0 a1_paintingsOf1 a1_ruledOut_ p2 p3 p4 F v3 ((0 : Int64)) ((1 : Int64)) ((0 : Int32)) t_above t_below)))
def oX1_weigh (D : jv_D) (h_t : Nat) (h_a1 : Nat) (h_a1_ruledOut : Nat) (a1_rows : Int32) (a1_columns : Int32) (a1_paints : Int32) (a1_apart : Int32) (a1_paintsOf0 : Int32) (a1_paintsOf1 : Int32) (a1_old : Int32) (a1_shut : Int32) (a1_all : Int32) (a1_firstColumn : Int32) (a1_fitsAtFirst : Int32) (a1_paintingsOf0 : Int32) (a1_paintingsOf1 : Int32) (a1_ruledOut_ : Nat → Int32) (r : Int64 × Int64) : va_W := [(h_t, .inr (1, [.long r.1, .long r.2])), (h_a1, .inr (2, [.int a1_rows, .int a1_columns, .int a1_paints, .int a1_apart, .int a1_paintsOf0, .int a1_paintsOf1, .int a1_old, .int a1_shut, .int a1_all, .int a1_firstColumn, .int a1_fitsAtFirst, .int a1_paintingsOf0, .int a1_paintingsOf1, .ref h_a1_ruledOut])), (h_a1_ruledOut, jI D 27 a1_ruledOut_)]
def oX1_weighAll (D : jv_D) (h_t : Nat) (h_a1 : Nat) (h_a1_ruledOut : Nat) (a1_rows : Int32) (a1_columns : Int32) (a1_paints : Int32) (a1_apart : Int32) (a1_paintsOf0 : Int32) (a1_paintsOf1 : Int32) (a1_old : Int32) (a1_shut : Int32) (a1_all : Int32) (a1_firstColumn : Int32) (a1_fitsAtFirst : Int32) (a1_paintingsOf0 : Int32) (a1_paintingsOf1 : Int32) (a1_ruledOut_ : Nat → Int32) (r : Int64 × Int64) : va_W := [(h_t, .inr (1, [.long r.1, .long r.2])), (h_a1, .inr (2, [.int a1_rows, .int a1_columns, .int a1_paints, .int a1_apart, .int a1_paintsOf0, .int a1_paintsOf1, .int a1_old, .int a1_shut, .int a1_all, .int a1_firstColumn, .int a1_fitsAtFirst, .int a1_paintingsOf0, .int a1_paintingsOf1, .ref h_a1_ruledOut])), (h_a1_ruledOut, jI D 27 a1_ruledOut_)]
set_option maxHeartbeats 40000000 in
set_option maxRecDepth 100000 in
theorem mX1_weighAll (l : Launch) (D : jv_D) (F : Nat) (rec : Int64 → Int64 → Int32 → Int32 → (Nat → Int32) → Int32 → Int32 → Int32 → Option (Int64 × Int64)) (fr lo : Nat) (hrec : ∀ (h_t : Nat) (h_a1 : Nat) (h_a1_ruledOut : Nat) (t_above : Int64) (t_below : Int64) (a1_rows : Int32) (a1_columns : Int32) (a1_paints : Int32) (a1_apart : Int32) (a1_paintsOf0 : Int32) (a1_paintsOf1 : Int32) (a1_old : Int32) (a1_shut : Int32) (a1_all : Int32) (a1_firstColumn : Int32) (a1_fitsAtFirst : Int32) (a1_paintingsOf0 : Int32) (a1_paintingsOf1 : Int32) (a1_ruledOut_ : Nat → Int32) (p2 : Int32) (p3 : Int32) (p4 : Int32) (r : Int64 × Int64), rec t_above t_below a1_paintingsOf0 a1_paintingsOf1 a1_ruledOut_ p2 p3 p4 = some r → MM l yX1_weigh (jW yX1_weigh cX1_weigh 5 none) ({ frames := fr, cells := 0, slots := 0, locals := lo }) D [.ref h_t, .ref h_a1, .int p2, .int p3, .int p4] [(h_t, .inr (1, [.long t_above, .long t_below])), (h_a1, .inr (2, [.int a1_rows, .int a1_columns, .int a1_paints, .int a1_apart, .int a1_paintsOf0, .int a1_paintsOf1, .int a1_old, .int a1_shut, .int a1_all, .int a1_firstColumn, .int a1_fitsAtFirst, .int a1_paintingsOf0, .int a1_paintingsOf1, .ref h_a1_ruledOut])), (h_a1_ruledOut, jI D 27 a1_ruledOut_)] none (oX1_weigh D h_t h_a1 h_a1_ruledOut a1_rows a1_columns a1_paints a1_apart a1_paintsOf0 a1_paintsOf1 a1_old a1_shut a1_all a1_firstColumn a1_fitsAtFirst a1_paintingsOf0 a1_paintingsOf1 a1_ruledOut_ r)) (h_t : Nat) (h_a1 : Nat) (h_a1_ruledOut : Nat) (t_above : Int64) (t_below : Int64) (a1_rows : Int32) (a1_columns : Int32) (a1_paints : Int32) (a1_apart : Int32) (a1_paintsOf0 : Int32) (a1_paintsOf1 : Int32) (a1_old : Int32) (a1_shut : Int32) (a1_all : Int32) (a1_firstColumn : Int32) (a1_fitsAtFirst : Int32) (a1_paintingsOf0 : Int32) (a1_paintingsOf1 : Int32) (a1_ruledOut_ : Nat → Int32) (p2 : Int32) (p3 : Int32) (p4 : Int32) (r : Int64 × Int64) (h : fX1_weighAll F rec t_above t_below a1_paintingsOf0 a1_paintingsOf1 a1_ruledOut_ p2 p3 p4 = some r) : MM l yX1_weighAll (jW yX1_weighAll cX1_weighAll 11 none) ({ frames := fr + 2, cells := 0, slots := 0, locals := lo + 56 }) D [.ref h_t, .ref h_a1, .int p2, .int p3, .int p4] [(h_t, .inr (1, [.long t_above, .long t_below])), (h_a1, .inr (2, [.int a1_rows, .int a1_columns, .int a1_paints, .int a1_apart, .int a1_paintsOf0, .int a1_paintsOf1, .int a1_old, .int a1_shut, .int a1_all, .int a1_firstColumn, .int a1_fitsAtFirst, .int a1_paintingsOf0, .int a1_paintingsOf1, .ref h_a1_ruledOut])), (h_a1_ruledOut, jI D 27 a1_ruledOut_)] none (oX1_weighAll D h_t h_a1 h_a1_ruledOut a1_rows a1_columns a1_paints a1_apart a1_paintsOf0 a1_paintsOf1 a1_old a1_shut a1_all a1_firstColumn a1_fitsAtFirst a1_paintingsOf0 a1_paintingsOf1 a1_ruledOut_ r) := by
  refine mn_of hpX1_weighAll (Nat.le_of_ble_eq_true rfl) ?_
  intro X hXl C E0 hN
  subst hXl
  replace C : JC D X 11 RX1 cX1_weighAll ({ frames := fr + 2, cells := 0, slots := 0, locals := lo + 56 }) := C
  have E : JE D X 0 0 none (fun _ : Unit => none) (fun _ : Unit => (oX1_weighAll D h_t h_a1 h_a1_ruledOut a1_rows a1_columns a1_paints a1_apart a1_paintsOf0 a1_paintsOf1 a1_old a1_shut a1_all a1_firstColumn a1_fitsAtFirst a1_paintingsOf0 a1_paintingsOf1 a1_ruledOut_ r)) := E0 0 0 rfl rfl
  clear E0 hN
  show JJ D X 11 0 0 0 [(0, .ref h_t), (1, .ref h_a1), (2, .int p2), (3, .int p3), (4, .int p4)] [] [(h_t, .inr (1, [.long t_above, .long t_below])), (h_a1, .inr (2, [.int a1_rows, .int a1_columns, .int a1_paints, .int a1_apart, .int a1_paintsOf0, .int a1_paintsOf1, .int a1_old, .int a1_shut, .int a1_all, .int a1_firstColumn, .int a1_fitsAtFirst, .int a1_paintingsOf0, .int a1_paintingsOf1, .ref h_a1_ruledOut])), (h_a1_ruledOut, jI D 27 a1_ruledOut_)]
  unfold fX1_weighAll at h
  have L18 : ∀ (x4 : Int32) (x5 : Int64) (x6 : Int64) (x7 : Int32) (m_t_above_8 : Int64) (m_t_below_9 : Int64), lX1_weighAll_18 F rec a1_paintingsOf0 a1_paintingsOf1 a1_ruledOut_ p2 p3 p4  F x4 x5 x6 x7 m_t_above_8 m_t_below_9 = some r → JJ D X 11 0 0 18 [(0, .ref h_t), (1, .ref h_a1), (2, .int p2), (3, .int p3), (4, .int p4), (5, .int x4), (6, .long x5), (8, .long x6), (10, .int x7)] [] [(h_t, .inr (1, [.long m_t_above_8, .long m_t_below_9])), (h_a1, .inr (2, [.int a1_rows, .int a1_columns, .int a1_paints, .int a1_apart, .int a1_paintsOf0, .int a1_paintsOf1, .int a1_old, .int a1_shut, .int a1_all, .int a1_firstColumn, .int a1_fitsAtFirst, .int a1_paintingsOf0, .int a1_paintingsOf1, .ref h_a1_ruledOut])), (h_a1_ruledOut, jI D 27 a1_ruledOut_)] := by
    intro x4 x5 x6 x7 m_t_above_8 m_t_below_9 h
    refine jl_ind6 (fun x4 x5 x6 x7 m_t_above_8 m_t_below_9 => JJ D X 11 0 0 18 [(0, .ref h_t), (1, .ref h_a1), (2, .int p2), (3, .int p3), (4, .int p4), (5, .int x4), (6, .long x5), (8, .long x6), (10, .int x7)] [] [(h_t, .inr (1, [.long m_t_above_8, .long m_t_below_9])), (h_a1, .inr (2, [.int a1_rows, .int a1_columns, .int a1_paints, .int a1_apart, .int a1_paintsOf0, .int a1_paintsOf1, .int a1_old, .int a1_shut, .int a1_all, .int a1_firstColumn, .int a1_fitsAtFirst, .int a1_paintingsOf0, .int a1_paintingsOf1, .ref h_a1_ruledOut])), (h_a1_ruledOut, jI D 27 a1_ruledOut_)]) ?_ F x4 x5 x6 x7 m_t_above_8 m_t_below_9 h
    clear h x4 x5 x6 x7 m_t_above_8 m_t_below_9
    intro k18 i18 x4 x5 x6 x7 m_t_above_8 m_t_below_9 h
    replace i18 : ∀ (x4 : Int32) (x5 : Int64) (x6 : Int64) (x7 : Int32) (m_t_above_8 : Int64) (m_t_below_9 : Int64), k18 x4 x5 x6 x7 m_t_above_8 m_t_below_9 = some r → JJ D X 11 0 0 18 [(0, .ref h_t), (1, .ref h_a1), (2, .int p2), (3, .int p3), (4, .int p4), (5, .int x4), (6, .long x5), (8, .long x6), (10, .int x7)] [] [(h_t, .inr (1, [.long m_t_above_8, .long m_t_below_9])), (h_a1, .inr (2, [.int a1_rows, .int a1_columns, .int a1_paints, .int a1_apart, .int a1_paintsOf0, .int a1_paintsOf1, .int a1_old, .int a1_shut, .int a1_all, .int a1_firstColumn, .int a1_fitsAtFirst, .int a1_paintingsOf0, .int a1_paintingsOf1, .ref h_a1_ruledOut])), (h_a1_ruledOut, jI D 27 a1_ruledOut_)] := i18
    show JJ D X 11 0 0 18 [(0, .ref h_t), (1, .ref h_a1), (2, .int p2), (3, .int p3), (4, .int p4), (5, .int x4), (6, .long x5), (8, .long x6), (10, .int x7)] [] [(h_t, .inr (1, [.long m_t_above_8, .long m_t_below_9])), (h_a1, .inr (2, [.int a1_rows, .int a1_columns, .int a1_paints, .int a1_apart, .int a1_paintsOf0, .int a1_paintsOf1, .int a1_old, .int a1_shut, .int a1_all, .int a1_firstColumn, .int a1_fitsAtFirst, .int a1_paintingsOf0, .int a1_paintingsOf1, .ref h_a1_ruledOut])), (h_a1_ruledOut, jI D 27 a1_ruledOut_)]
    unfold bX1_weighAll_18 at h
    refine j_iload C dX1_weighAll_18 8 rfl ?_
    refine j_bipush C dX1_weighAll_20 (v := (27 : Int32)) (by decide) ?_
    refine j_icmp_ge C (tgt := 100) dX1_weighAll_22 (by decide) h (fun c10 h => ?_) (fun c10 h => ?_)
    · refine j_aload_n C dX1_weighAll_100 rfl 0 rfl ?_
      refine j_lload C dX1_weighAll_101 6 rfl ?_
      refine j_lload C dX1_weighAll_103 7 rfl ?_
      refine j_iload C dX1_weighAll_105 5 rfl ?_
      obtain ⟨r11, q12, h⟩ := jl_bind h
      refine j_cS1 C (mJ6_bitCount_0f7a4 (jlaunch X) D x4 r11 q12) bmX1_42 btJ6_bitCount_0f7a4 bzJ6 bcJ6_bitCount_0f7a4 hJ6_bitCount_0f7a4 (rest := [.long x6, .long x5, .ref h_t]) rfl (by refine ⟨rfl, rfl, ⟨?_, ?_⟩, ?_, ?_⟩ <;> dsimp only <;> omega) [] [0, 1, 2] [0, 1, 2] (wr := [(h_t, .inr (1, [.long m_t_above_8, .long m_t_below_9])), (h_a1, .inr (2, [.int a1_rows, .int a1_columns, .int a1_paints, .int a1_apart, .int a1_paintsOf0, .int a1_paintsOf1, .int a1_old, .int a1_shut, .int a1_all, .int a1_firstColumn, .int a1_fitsAtFirst, .int a1_paintingsOf0, .int a1_paintingsOf1, .ref h_a1_ruledOut])), (h_a1_ruledOut, jI D 27 a1_ruledOut_)]) (ws2 := [(h_t, .inr (1, [.long m_t_above_8, .long m_t_below_9])), (h_a1, .inr (2, [.int a1_rows, .int a1_columns, .int a1_paints, .int a1_apart, .int a1_paintsOf0, .int a1_paintsOf1, .int a1_old, .int a1_shut, .int a1_all, .int a1_firstColumn, .int a1_fitsAtFirst, .int a1_paintingsOf0, .int a1_paintingsOf1, .ref h_a1_ruledOut])), (h_a1_ruledOut, jI D 27 a1_ruledOut_)]) rfl rfl rfl rfl rfl (Nat.le_of_ble_eq_true rfl) dX1_weighAll_107 ?_
      refine j_i2l C dX1_weighAll_110 ?_
      refine j_lmul C dX1_weighAll_111 ?_
      obtain ⟨r13, q14, h⟩ := jl_bind h
      refine j_cV0 C (mX1_settle (jlaunch X) D F h_t m_t_above_8 m_t_below_9 x5 (x6 * r11.toInt64) r13 q14) bmX1_31 biX1_settle bsX1_settle bzX1 bcX1_settle rfl hX1_settle (rest := []) rfl (by refine ⟨rfl, rfl, ⟨?_, ?_⟩, ?_, ?_⟩ <;> dsimp only <;> omega) 0 (ci := 1) rfl rfl rfl [0] [1, 2] [2, 0, 1] (wr := [(h_a1, .inr (2, [.int a1_rows, .int a1_columns, .int a1_paints, .int a1_apart, .int a1_paintsOf0, .int a1_paintsOf1, .int a1_old, .int a1_shut, .int a1_all, .int a1_firstColumn, .int a1_fitsAtFirst, .int a1_paintingsOf0, .int a1_paintingsOf1, .ref h_a1_ruledOut])), (h_a1_ruledOut, jI D 27 a1_ruledOut_)]) (ws2 := [(h_t, .inr (1, [.long r13.1, .long r13.2])), (h_a1, .inr (2, [.int a1_rows, .int a1_columns, .int a1_paints, .int a1_apart, .int a1_paintsOf0, .int a1_paintsOf1, .int a1_old, .int a1_shut, .int a1_all, .int a1_firstColumn, .int a1_fitsAtFirst, .int a1_paintingsOf0, .int a1_paintingsOf1, .ref h_a1_ruledOut])), (h_a1_ruledOut, jI D 27 a1_ruledOut_)]) rfl rfl rfl rfl rfl (Nat.le_of_ble_eq_true rfl) dX1_weighAll_112 ?_
      exact j_vretR C (r := r) (rtf := fun r => none) (wff := fun r => (oX1_weighAll D h_t h_a1 h_a1_ruledOut a1_rows a1_columns a1_paints a1_apart a1_paintsOf0 a1_paintsOf1 a1_old a1_shut a1_all a1_firstColumn a1_fitsAtFirst a1_paintingsOf0 a1_paintingsOf1 a1_ruledOut_ r)) E h rfl rfl dX1_weighAll_115
    · refine j_iload C dX1_weighAll_25 5 rfl ?_
      refine j_iload C dX1_weighAll_27 8 rfl ?_
      refine j_ishr C dX1_weighAll_29 ?_
      refine j_iconst C dX1_weighAll_30 (v := (1 : Int32)) (by decide) ?_
      refine j_iand C dX1_weighAll_31 ?_
      refine j_if_eq C (tgt := 94) dX1_weighAll_32 (by decide) h (fun c15 h => ?_) (fun c15 h => ?_)
      · refine j_iinc C dX1_weighAll_94 8 rfl (lv' := fun v16 => [(10, .int v16), (0, .ref h_t), (1, .ref h_a1), (2, .int p2), (3, .int p3), (4, .int p4), (5, .int x4), (6, .long x5), (8, .long x6)]) (by decide) (fun _ => rfl) h (fun v16 h => ?_)
        refine j_goto C dX1_weighAll_97 (tgt := 18) (by decide) ?_
        refine j_sub (lv' := [(0, .ref h_t), (1, .ref h_a1), (2, .int p2), (3, .int p3), (4, .int p4), (5, .int x4), (6, .long x5), (8, .long x6), (10, .int v16)]) [1, 2, 3, 4, 5, 6, 7, 8, 0] rfl ?_
        exact i18 x4 x5 x6 v16 m_t_above_8 m_t_below_9 h
      · refine j_aload_n C dX1_weighAll_35 rfl 0 rfl ?_
        refine j_aload_n C dX1_weighAll_36 rfl 1 rfl ?_
        refine j_aload_n C dX1_weighAll_37 rfl 1 rfl ?_
        refine j_iload_n C dX1_weighAll_38 rfl 2 rfl ?_
        refine j_iconst C dX1_weighAll_39 (v := (1 : Int32)) (by decide) ?_
        refine j_iload C dX1_weighAll_40 8 rfl ?_
        refine j_ishl C dX1_weighAll_42 ?_
        obtain ⟨r17, q18, h⟩ := jl_bind h
        refine j_cV1 C (mX3_fittingAfter (jlaunch X) D h_a1 h_a1_ruledOut a1_rows a1_columns a1_paints a1_apart a1_paintsOf0 a1_paintsOf1 a1_old a1_shut a1_all a1_firstColumn a1_fitsAtFirst a1_paintingsOf0 a1_paintingsOf1 a1_ruledOut_ p2 (((1 : Int32)) <<< (x7 &&& 31)) r17 q18) bmX1_38 biX3_fittingAfter bsX3_fittingAfter bzX3 bcX3_fittingAfter rfl hX3_fittingAfter (rest := [.ref h_a1, .ref h_t]) rfl (by refine ⟨rfl, rfl, ⟨?_, ?_⟩, ?_, ?_⟩ <;> dsimp only <;> omega) 0 (ci := 2) rfl rfl rfl [1, 2] [0] [0, 1, 2] (wr := [(h_t, .inr (1, [.long m_t_above_8, .long m_t_below_9]))]) (ws2 := [(h_t, .inr (1, [.long m_t_above_8, .long m_t_below_9])), (h_a1, .inr (2, [.int a1_rows, .int a1_columns, .int a1_paints, .int a1_apart, .int a1_paintsOf0, .int a1_paintsOf1, .int a1_old, .int a1_shut, .int a1_all, .int a1_firstColumn, .int a1_fitsAtFirst, .int a1_paintingsOf0, .int a1_paintingsOf1, .ref h_a1_ruledOut])), (h_a1_ruledOut, jI D 27 a1_ruledOut_)]) rfl rfl rfl rfl rfl (Nat.le_of_ble_eq_true rfl) dX1_weighAll_43 ?_
        refine j_iconst C dX1_weighAll_46 (v := (1 : Int32)) (by decide) ?_
        refine j_iload_n C dX1_weighAll_47 rfl 3 rfl ?_
        refine j_isub C dX1_weighAll_48 ?_
        refine j_iload C dX1_weighAll_49 4 rfl ?_
        refine j_iconst C dX1_weighAll_51 (v := (1 : Int32)) (by decide) ?_
        refine j_isub C dX1_weighAll_52 ?_
        obtain ⟨r19, q20, h⟩ := jl_bind h
        refine j_cV0 C (hrec h_t h_a1 h_a1_ruledOut m_t_above_8 m_t_below_9 a1_rows a1_columns a1_paints a1_apart a1_paintsOf0 a1_paintsOf1 a1_old a1_shut a1_all a1_firstColumn a1_fitsAtFirst a1_paintingsOf0 a1_paintingsOf1 a1_ruledOut_ r17 (((1 : Int32)) - p3) (p4 - ((1 : Int32))) r19 q20) bmX1_15 biX1_weigh bsX1_weigh bzX1 bcX1_weigh rfl hX1_weigh (rest := []) rfl (by refine ⟨rfl, rfl, ⟨?_, ?_⟩, ?_, ?_⟩ <;> dsimp only <;> omega) 0 (ci := 1) rfl rfl rfl [0, 1, 2] [] [0, 1, 2] (wr := []) (ws2 := [(h_t, .inr (1, [.long r19.1, .long r19.2])), (h_a1, .inr (2, [.int a1_rows, .int a1_columns, .int a1_paints, .int a1_apart, .int a1_paintsOf0, .int a1_paintsOf1, .int a1_old, .int a1_shut, .int a1_all, .int a1_firstColumn, .int a1_fitsAtFirst, .int a1_paintingsOf0, .int a1_paintingsOf1, .ref h_a1_ruledOut])), (h_a1_ruledOut, jI D 27 a1_ruledOut_)]) rfl rfl rfl rfl rfl (Nat.le_of_ble_eq_true rfl) dX1_weighAll_53 ?_
        refine j_aload_n C dX1_weighAll_56 rfl 0 rfl ?_
        refine j_lload C dX1_weighAll_57 6 rfl ?_
        refine j_aload_n C dX1_weighAll_59 rfl 0 rfl ?_
        refine j_get C ibX1 (ci := 1) 0 rfl rfl 1 (by decide) bfX1_25 (v := .long r19.2) rfl dX1_weighAll_60 ?_
        refine j_lmul C dX1_weighAll_63 ?_
        refine j_aload_n C dX1_weighAll_64 rfl 0 rfl ?_
        refine j_get C ibX1 (ci := 1) 0 rfl rfl 0 (by decide) bfX1_21 (v := .long r19.1) rfl dX1_weighAll_65 ?_
        refine j_lload C dX1_weighAll_68 7 rfl ?_
        refine j_lmul C dX1_weighAll_70 ?_
        refine j_ladd C dX1_weighAll_71 ?_
        refine j_lload C dX1_weighAll_72 7 rfl ?_
        refine j_aload_n C dX1_weighAll_74 rfl 0 rfl ?_
        refine j_get C ibX1 (ci := 1) 0 rfl rfl 1 (by decide) bfX1_25 (v := .long r19.2) rfl dX1_weighAll_75 ?_
        refine j_lmul C dX1_weighAll_78 ?_
        obtain ⟨r21, q22, h⟩ := jl_bind h
        refine j_cV0 C (mX1_settle (jlaunch X) D F h_t r19.1 r19.2 ((x5 * r19.2) + (r19.1 * x6)) (x6 * r19.2) r21 q22) bmX1_31 biX1_settle bsX1_settle bzX1 bcX1_settle rfl hX1_settle (rest := []) rfl (by refine ⟨rfl, rfl, ⟨?_, ?_⟩, ?_, ?_⟩ <;> dsimp only <;> omega) 0 (ci := 1) rfl rfl rfl [0] [1, 2] [2, 0, 1] (wr := [(h_a1, .inr (2, [.int a1_rows, .int a1_columns, .int a1_paints, .int a1_apart, .int a1_paintsOf0, .int a1_paintsOf1, .int a1_old, .int a1_shut, .int a1_all, .int a1_firstColumn, .int a1_fitsAtFirst, .int a1_paintingsOf0, .int a1_paintingsOf1, .ref h_a1_ruledOut])), (h_a1_ruledOut, jI D 27 a1_ruledOut_)]) (ws2 := [(h_t, .inr (1, [.long r21.1, .long r21.2])), (h_a1, .inr (2, [.int a1_rows, .int a1_columns, .int a1_paints, .int a1_apart, .int a1_paintsOf0, .int a1_paintsOf1, .int a1_old, .int a1_shut, .int a1_all, .int a1_firstColumn, .int a1_fitsAtFirst, .int a1_paintingsOf0, .int a1_paintingsOf1, .ref h_a1_ruledOut])), (h_a1_ruledOut, jI D 27 a1_ruledOut_)]) rfl rfl rfl rfl rfl (Nat.le_of_ble_eq_true rfl) dX1_weighAll_79 ?_
        refine j_aload_n C dX1_weighAll_82 rfl 0 rfl ?_
        refine j_get C ibX1 (ci := 1) 0 rfl rfl 0 (by decide) bfX1_21 (v := .long r21.1) rfl dX1_weighAll_83 ?_
        refine j_lstore C dX1_weighAll_86 (lv' := fun v23 => [(6, .long v23), (0, .ref h_t), (1, .ref h_a1), (2, .int p2), (3, .int p3), (4, .int p4), (5, .int x4), (8, .long x6), (10, .int x7)]) (by decide) (fun _ => rfl) h (fun v23 h => ?_)
        refine j_aload_n C dX1_weighAll_88 rfl 1 rfl ?_
        refine j_get C ibX1 (ci := 1) 0 rfl rfl 1 (by decide) bfX1_25 (v := .long r21.2) rfl dX1_weighAll_89 ?_
        refine j_lstore C dX1_weighAll_92 (lv' := fun v24 => [(8, .long v24), (6, .long v23), (0, .ref h_t), (1, .ref h_a1), (2, .int p2), (3, .int p3), (4, .int p4), (5, .int x4), (10, .int x7)]) (by decide) (fun _ => rfl) h (fun v24 h => ?_)
        refine j_iinc C dX1_weighAll_94 8 rfl (lv' := fun v25 => [(10, .int v25), (8, .long v24), (6, .long v23), (0, .ref h_t), (1, .ref h_a1), (2, .int p2), (3, .int p3), (4, .int p4), (5, .int x4)]) (by decide) (fun _ => rfl) h (fun v25 h => ?_)
        refine j_goto C dX1_weighAll_97 (tgt := 18) (by decide) ?_
        refine j_sub (lv' := [(0, .ref h_t), (1, .ref h_a1), (2, .int p2), (3, .int p3), (4, .int p4), (5, .int x4), (6, .long v23), (8, .long v24), (10, .int v25)]) [3, 4, 5, 6, 7, 8, 2, 1, 0] rfl ?_
        exact i18 x4 v23 v24 v25 r21.1 r21.2 h
  refine j_iload_n C dX1_weighAll_0 rfl 2 rfl ?_
  refine j_aload_n C dX1_weighAll_1 rfl 1 rfl ?_
  refine j_iload_n C dX1_weighAll_2 rfl 3 rfl ?_
  obtain ⟨r1, q2, h⟩ := jl_bind h
  refine j_cV1 C (mX3_paintingsOf (jlaunch X) D h_a1 h_a1_ruledOut a1_rows a1_columns a1_paints a1_apart a1_paintsOf0 a1_paintsOf1 a1_old a1_shut a1_all a1_firstColumn a1_fitsAtFirst a1_paintingsOf0 a1_paintingsOf1 p3 r1 q2) bmX1_28 biX3_paintingsOf bsX3_paintingsOf bzX3 bcX3_paintingsOf rfl hX3_paintingsOf (rest := [.int p2]) rfl (by refine ⟨rfl, rfl, ⟨?_, ?_⟩, ?_, ?_⟩ <;> dsimp only <;> omega) 0 (ci := 2) rfl rfl rfl [1] [0, 2] [0, 2, 1] (wr := [(h_t, .inr (1, [.long t_above, .long t_below])), (h_a1_ruledOut, jI D 27 a1_ruledOut_)]) (ws2 := [(h_t, .inr (1, [.long t_above, .long t_below])), (h_a1, .inr (2, [.int a1_rows, .int a1_columns, .int a1_paints, .int a1_apart, .int a1_paintsOf0, .int a1_paintsOf1, .int a1_old, .int a1_shut, .int a1_all, .int a1_firstColumn, .int a1_fitsAtFirst, .int a1_paintingsOf0, .int a1_paintingsOf1, .ref h_a1_ruledOut])), (h_a1_ruledOut, jI D 27 a1_ruledOut_)]) rfl rfl rfl rfl rfl (Nat.le_of_ble_eq_true rfl) dX1_weighAll_3 ?_
  refine j_iand C dX1_weighAll_6 ?_
  refine j_istore C dX1_weighAll_7 (lv' := fun v3 => [(5, .int v3), (0, .ref h_t), (1, .ref h_a1), (2, .int p2), (3, .int p3), (4, .int p4)]) (by decide) (fun _ => rfl) h (fun v3 h => ?_)
  refine j_lconst C dX1_weighAll_9 (v := (0 : Int64)) (by decide) ?_
  refine j_lstoreC C dX1_weighAll_10 (lv' := [(6, .long ((0 : Int64))), (5, .int v3), (0, .ref h_t), (1, .ref h_a1), (2, .int p2), (3, .int p3), (4, .int p4)]) (by decide) rfl ?_
  refine j_lconst C dX1_weighAll_12 (v := (1 : Int64)) (by decide) ?_
  refine j_lstoreC C dX1_weighAll_13 (lv' := [(8, .long ((1 : Int64))), (6, .long ((0 : Int64))), (5, .int v3), (0, .ref h_t), (1, .ref h_a1), (2, .int p2), (3, .int p3), (4, .int p4)]) (by decide) rfl ?_
  refine j_iconst C dX1_weighAll_15 (v := (0 : Int32)) (by decide) ?_
  refine j_istoreC C dX1_weighAll_16 (lv' := [(10, .int ((0 : Int32))), (8, .long ((1 : Int64))), (6, .long ((0 : Int64))), (5, .int v3), (0, .ref h_t), (1, .ref h_a1), (2, .int p2), (3, .int p3), (4, .int p4)]) (by decide) rfl ?_
  refine j_sub (lv' := [(0, .ref h_t), (1, .ref h_a1), (2, .int p2), (3, .int p3), (4, .int p4), (5, .int v3), (6, .long ((0 : Int64))), (8, .long ((1 : Int64))), (10, .int ((0 : Int32)))]) [4, 5, 6, 7, 8, 3, 2, 1, 0] rfl ?_
  exact L18 v3 ((0 : Int64)) ((1 : Int64)) ((0 : Int32)) t_above t_below h
theorem dX1_weigh_0 : decode cX1_weigh 0 = .ok (.iload_n 2, 1) := by decide +kernel
theorem dX1_weigh_1 : decode cX1_weigh 1 = .ok (.aload_n 1, 1) := by decide +kernel
theorem dX1_weigh_2 : decode cX1_weigh 2 = .ok (.iload_n 3, 1) := by decide +kernel
theorem dX1_weigh_3 : decode cX1_weigh 3 = .ok (.invokevirtual 28, 3) := by decide +kernel
theorem dX1_weigh_6 : decode cX1_weigh 6 = .ok (.iand, 1) := by decide +kernel
theorem dX1_weigh_7 : decode cX1_weigh 7 = .ok (.ifCond .ne 20, 3) := by decide +kernel
theorem dX1_weigh_10 : decode cX1_weigh 10 = .ok (.aload_n 0, 1) := by decide +kernel
theorem dX1_weigh_11 : decode cX1_weigh 11 = .ok (.iload_n 3, 1) := by decide +kernel
theorem dX1_weigh_12 : decode cX1_weigh 12 = .ok (.ifCond .ne 7, 3) := by decide +kernel
theorem dX1_weigh_15 : decode cX1_weigh 15 = .ok (.lconst 1, 1) := by decide +kernel
theorem dX1_weigh_16 : decode cX1_weigh 16 = .ok (.goto 4, 3) := by decide +kernel
theorem dX1_weigh_19 : decode cX1_weigh 19 = .ok (.lconst 0, 1) := by decide +kernel
theorem dX1_weigh_20 : decode cX1_weigh 20 = .ok (.lconst 1, 1) := by decide +kernel
theorem dX1_weigh_21 : decode cX1_weigh 21 = .ok (.invokevirtual 31, 3) := by decide +kernel
theorem dX1_weigh_24 : decode cX1_weigh 24 = .ok (.goto 26, 3) := by decide +kernel
theorem dX1_weigh_27 : decode cX1_weigh 27 = .ok (.iload 4, 2) := by decide +kernel
theorem dX1_weigh_29 : decode cX1_weigh 29 = .ok (.ifCond .gt 12, 3) := by decide +kernel
theorem dX1_weigh_32 : decode cX1_weigh 32 = .ok (.aload_n 0, 1) := by decide +kernel
theorem dX1_weigh_33 : decode cX1_weigh 33 = .ok (.lconst 0, 1) := by decide +kernel
theorem dX1_weigh_34 : decode cX1_weigh 34 = .ok (.lconst 1, 1) := by decide +kernel
theorem dX1_weigh_35 : decode cX1_weigh 35 = .ok (.invokevirtual 31, 3) := by decide +kernel
theorem dX1_weigh_38 : decode cX1_weigh 38 = .ok (.goto 12, 3) := by decide +kernel
theorem dX1_weigh_41 : decode cX1_weigh 41 = .ok (.aload_n 0, 1) := by decide +kernel
theorem dX1_weigh_42 : decode cX1_weigh 42 = .ok (.aload_n 1, 1) := by decide +kernel
theorem dX1_weigh_43 : decode cX1_weigh 43 = .ok (.iload_n 2, 1) := by decide +kernel
theorem dX1_weigh_44 : decode cX1_weigh 44 = .ok (.iload_n 3, 1) := by decide +kernel
theorem dX1_weigh_45 : decode cX1_weigh 45 = .ok (.iload 4, 2) := by decide +kernel
theorem dX1_weigh_47 : decode cX1_weigh 47 = .ok (.invokevirtual 35, 3) := by decide +kernel
theorem dX1_weigh_50 : decode cX1_weigh 50 = .ok (.return_, 1) := by decide +kernel
def fX1_weigh_20 (F : Nat) (rec : Int64 → Int64 → Int32 → Int32 → (Nat → Int32) → Int32 → Int32 → Int32 → Option (Int64 × Int64)) (a1_paintingsOf0 : Int32) (a1_paintingsOf1 : Int32) (a1_ruledOut_ : Nat → Int32) (p2 : Int32) (p3 : Int32) (p4 : Int32)  (s5 : Int64) (m_t_above_6 : Int64) (m_t_below_7 : Int64) : Option (Int64 × Int64) :=
((fX1_settle F m_t_above_6 m_t_below_7 s5 ((1 : Int64))).bind fun r13 =>
(some (r13.1, r13.2)))
def gX1_weigh (F : Nat) (rec : Int64 → Int64 → Int32 → Int32 → (Nat → Int32) → Int32 → Int32 → Int32 → Option (Int64 × Int64)) (t_above : Int64) (t_below : Int64) (a1_paintingsOf0 : Int32) (a1_paintingsOf1 : Int32) (a1_ruledOut_ : Nat → Int32) (p2 : Int32) (p3 : Int32) (p4 : Int32) : Option (Int64 × Int64) :=
((fX3_paintingsOf a1_paintingsOf0 a1_paintingsOf1 p3).bind fun r1 =>
(if (p2 &&& r1) = 0 then
(if p3 = 0 then
(fX1_weigh_20 F rec a1_paintingsOf0 a1_paintingsOf1 a1_ruledOut_ p2 p3 p4 ((1 : Int64)) t_above t_below)
else
(fX1_weigh_20 F rec a1_paintingsOf0 a1_paintingsOf1 a1_ruledOut_ p2 p3 p4 ((0 : Int64)) t_above t_below))
else
(if 0 < p4 then
((fX1_weighAll F rec t_above t_below a1_paintingsOf0 a1_paintingsOf1 a1_ruledOut_ p2 p3 p4).bind fun r9 =>
(some (r9.1, r9.2)))
else
((fX1_settle F t_above t_below ((0 : Int64)) ((1 : Int64))).bind fun r11 =>
(some (r11.1, r11.2))))))
def fX1_weigh (F : Nat) (d : Nat) (t_above : Int64) (t_below : Int64) (a1_paintingsOf0 : Int32) (a1_paintingsOf1 : Int32) (a1_ruledOut_ : Nat → Int32) (p2 : Int32) (p3 : Int32) (p4 : Int32) : Option (Int64 × Int64) := jl_loop8 (fun rec => gX1_weigh F rec) d t_above t_below a1_paintingsOf0 a1_paintingsOf1 a1_ruledOut_ p2 p3 p4
set_option maxHeartbeats 40000000 in
set_option maxRecDepth 100000 in
theorem mgX1_weigh (l : Launch) (D : jv_D) (F : Nat) (rec : Int64 → Int64 → Int32 → Int32 → (Nat → Int32) → Int32 → Int32 → Int32 → Option (Int64 × Int64)) (fr lo : Nat) (hrec : ∀ (h_t : Nat) (h_a1 : Nat) (h_a1_ruledOut : Nat) (t_above : Int64) (t_below : Int64) (a1_rows : Int32) (a1_columns : Int32) (a1_paints : Int32) (a1_apart : Int32) (a1_paintsOf0 : Int32) (a1_paintsOf1 : Int32) (a1_old : Int32) (a1_shut : Int32) (a1_all : Int32) (a1_firstColumn : Int32) (a1_fitsAtFirst : Int32) (a1_paintingsOf0 : Int32) (a1_paintingsOf1 : Int32) (a1_ruledOut_ : Nat → Int32) (p2 : Int32) (p3 : Int32) (p4 : Int32) (r : Int64 × Int64), rec t_above t_below a1_paintingsOf0 a1_paintingsOf1 a1_ruledOut_ p2 p3 p4 = some r → MM l yX1_weigh (jW yX1_weigh cX1_weigh 5 none) ({ frames := fr, cells := 0, slots := 0, locals := lo }) D [.ref h_t, .ref h_a1, .int p2, .int p3, .int p4] [(h_t, .inr (1, [.long t_above, .long t_below])), (h_a1, .inr (2, [.int a1_rows, .int a1_columns, .int a1_paints, .int a1_apart, .int a1_paintsOf0, .int a1_paintsOf1, .int a1_old, .int a1_shut, .int a1_all, .int a1_firstColumn, .int a1_fitsAtFirst, .int a1_paintingsOf0, .int a1_paintingsOf1, .ref h_a1_ruledOut])), (h_a1_ruledOut, jI D 27 a1_ruledOut_)] none (oX1_weigh D h_t h_a1 h_a1_ruledOut a1_rows a1_columns a1_paints a1_apart a1_paintsOf0 a1_paintsOf1 a1_old a1_shut a1_all a1_firstColumn a1_fitsAtFirst a1_paintingsOf0 a1_paintingsOf1 a1_ruledOut_ r)) (h_t : Nat) (h_a1 : Nat) (h_a1_ruledOut : Nat) (t_above : Int64) (t_below : Int64) (a1_rows : Int32) (a1_columns : Int32) (a1_paints : Int32) (a1_apart : Int32) (a1_paintsOf0 : Int32) (a1_paintsOf1 : Int32) (a1_old : Int32) (a1_shut : Int32) (a1_all : Int32) (a1_firstColumn : Int32) (a1_fitsAtFirst : Int32) (a1_paintingsOf0 : Int32) (a1_paintingsOf1 : Int32) (a1_ruledOut_ : Nat → Int32) (p2 : Int32) (p3 : Int32) (p4 : Int32) (r : Int64 × Int64) (h : gX1_weigh F rec t_above t_below a1_paintingsOf0 a1_paintingsOf1 a1_ruledOut_ p2 p3 p4 = some r) : MM l yX1_weigh (jW yX1_weigh cX1_weigh 5 none) ({ frames := fr + 3, cells := 0, slots := 0, locals := lo + 86 }) D [.ref h_t, .ref h_a1, .int p2, .int p3, .int p4] [(h_t, .inr (1, [.long t_above, .long t_below])), (h_a1, .inr (2, [.int a1_rows, .int a1_columns, .int a1_paints, .int a1_apart, .int a1_paintsOf0, .int a1_paintsOf1, .int a1_old, .int a1_shut, .int a1_all, .int a1_firstColumn, .int a1_fitsAtFirst, .int a1_paintingsOf0, .int a1_paintingsOf1, .ref h_a1_ruledOut])), (h_a1_ruledOut, jI D 27 a1_ruledOut_)] none (oX1_weigh D h_t h_a1 h_a1_ruledOut a1_rows a1_columns a1_paints a1_apart a1_paintsOf0 a1_paintsOf1 a1_old a1_shut a1_all a1_firstColumn a1_fitsAtFirst a1_paintingsOf0 a1_paintingsOf1 a1_ruledOut_ r) := by
  refine mn_of hpX1_weigh (Nat.le_of_ble_eq_true rfl) ?_
  intro X hXl C E0 hN
  subst hXl
  replace C : JC D X 5 RX1 cX1_weigh ({ frames := fr + 3, cells := 0, slots := 0, locals := lo + 86 }) := C
  have E : JE D X 0 0 none (fun _ : Unit => none) (fun _ : Unit => (oX1_weigh D h_t h_a1 h_a1_ruledOut a1_rows a1_columns a1_paints a1_apart a1_paintsOf0 a1_paintsOf1 a1_old a1_shut a1_all a1_firstColumn a1_fitsAtFirst a1_paintingsOf0 a1_paintingsOf1 a1_ruledOut_ r)) := E0 0 0 rfl rfl
  clear E0 hN
  show JJ D X 5 0 0 0 [(0, .ref h_t), (1, .ref h_a1), (2, .int p2), (3, .int p3), (4, .int p4)] [] [(h_t, .inr (1, [.long t_above, .long t_below])), (h_a1, .inr (2, [.int a1_rows, .int a1_columns, .int a1_paints, .int a1_apart, .int a1_paintsOf0, .int a1_paintsOf1, .int a1_old, .int a1_shut, .int a1_all, .int a1_firstColumn, .int a1_fitsAtFirst, .int a1_paintingsOf0, .int a1_paintingsOf1, .ref h_a1_ruledOut])), (h_a1_ruledOut, jI D 27 a1_ruledOut_)]
  unfold gX1_weigh at h
  have L20 : ∀ (s5 : Int64) (m_t_above_6 : Int64) (m_t_below_7 : Int64), fX1_weigh_20 F rec a1_paintingsOf0 a1_paintingsOf1 a1_ruledOut_ p2 p3 p4  s5 m_t_above_6 m_t_below_7 = some r → JJ D X 5 0 0 20 [] [.long s5, .ref h_t] [(h_t, .inr (1, [.long m_t_above_6, .long m_t_below_7])), (h_a1, .inr (2, [.int a1_rows, .int a1_columns, .int a1_paints, .int a1_apart, .int a1_paintsOf0, .int a1_paintsOf1, .int a1_old, .int a1_shut, .int a1_all, .int a1_firstColumn, .int a1_fitsAtFirst, .int a1_paintingsOf0, .int a1_paintingsOf1, .ref h_a1_ruledOut])), (h_a1_ruledOut, jI D 27 a1_ruledOut_)] := by
    intro s5 m_t_above_6 m_t_below_7 h
    unfold fX1_weigh_20 at h
    refine j_lconst C dX1_weigh_20 (v := (1 : Int64)) (by decide) ?_
    obtain ⟨r13, q14, h⟩ := jl_bind h
    refine j_cV0 C (mX1_settle (jlaunch X) D F h_t m_t_above_6 m_t_below_7 s5 ((1 : Int64)) r13 q14) bmX1_31 biX1_settle bsX1_settle bzX1 bcX1_settle rfl hX1_settle (rest := []) rfl (by refine ⟨rfl, rfl, ⟨?_, ?_⟩, ?_, ?_⟩ <;> dsimp only <;> omega) 0 (ci := 1) rfl rfl rfl [0] [1, 2] [2, 0, 1] (wr := [(h_a1, .inr (2, [.int a1_rows, .int a1_columns, .int a1_paints, .int a1_apart, .int a1_paintsOf0, .int a1_paintsOf1, .int a1_old, .int a1_shut, .int a1_all, .int a1_firstColumn, .int a1_fitsAtFirst, .int a1_paintingsOf0, .int a1_paintingsOf1, .ref h_a1_ruledOut])), (h_a1_ruledOut, jI D 27 a1_ruledOut_)]) (ws2 := [(h_t, .inr (1, [.long r13.1, .long r13.2])), (h_a1, .inr (2, [.int a1_rows, .int a1_columns, .int a1_paints, .int a1_apart, .int a1_paintsOf0, .int a1_paintsOf1, .int a1_old, .int a1_shut, .int a1_all, .int a1_firstColumn, .int a1_fitsAtFirst, .int a1_paintingsOf0, .int a1_paintingsOf1, .ref h_a1_ruledOut])), (h_a1_ruledOut, jI D 27 a1_ruledOut_)]) rfl rfl rfl rfl rfl (Nat.le_of_ble_eq_true rfl) dX1_weigh_21 ?_
    refine j_goto C dX1_weigh_24 (tgt := 50) (by decide) ?_
    exact j_vretR C (r := r) (rtf := fun r => none) (wff := fun r => (oX1_weigh D h_t h_a1 h_a1_ruledOut a1_rows a1_columns a1_paints a1_apart a1_paintsOf0 a1_paintsOf1 a1_old a1_shut a1_all a1_firstColumn a1_fitsAtFirst a1_paintingsOf0 a1_paintingsOf1 a1_ruledOut_ r)) E h rfl rfl dX1_weigh_50
  refine j_iload_n C dX1_weigh_0 rfl 2 rfl ?_
  refine j_aload_n C dX1_weigh_1 rfl 1 rfl ?_
  refine j_iload_n C dX1_weigh_2 rfl 3 rfl ?_
  obtain ⟨r1, q2, h⟩ := jl_bind h
  refine j_cV1 C (mX3_paintingsOf (jlaunch X) D h_a1 h_a1_ruledOut a1_rows a1_columns a1_paints a1_apart a1_paintsOf0 a1_paintsOf1 a1_old a1_shut a1_all a1_firstColumn a1_fitsAtFirst a1_paintingsOf0 a1_paintingsOf1 p3 r1 q2) bmX1_28 biX3_paintingsOf bsX3_paintingsOf bzX3 bcX3_paintingsOf rfl hX3_paintingsOf (rest := [.int p2]) rfl (by refine ⟨rfl, rfl, ⟨?_, ?_⟩, ?_, ?_⟩ <;> dsimp only <;> omega) 0 (ci := 2) rfl rfl rfl [1] [0, 2] [0, 2, 1] (wr := [(h_t, .inr (1, [.long t_above, .long t_below])), (h_a1_ruledOut, jI D 27 a1_ruledOut_)]) (ws2 := [(h_t, .inr (1, [.long t_above, .long t_below])), (h_a1, .inr (2, [.int a1_rows, .int a1_columns, .int a1_paints, .int a1_apart, .int a1_paintsOf0, .int a1_paintsOf1, .int a1_old, .int a1_shut, .int a1_all, .int a1_firstColumn, .int a1_fitsAtFirst, .int a1_paintingsOf0, .int a1_paintingsOf1, .ref h_a1_ruledOut])), (h_a1_ruledOut, jI D 27 a1_ruledOut_)]) rfl rfl rfl rfl rfl (Nat.le_of_ble_eq_true rfl) dX1_weigh_3 ?_
  refine j_iand C dX1_weigh_6 ?_
  refine j_if_ne C (tgt := 27) dX1_weigh_7 (by decide) h (fun c3 h => ?_) (fun c3 h => ?_)
  · refine j_aload_n C dX1_weigh_10 rfl 0 rfl ?_
    refine j_iload_n C dX1_weigh_11 rfl 3 rfl ?_
    refine j_if_ne C (tgt := 19) dX1_weigh_12 (by decide) h (fun c4 h => ?_) (fun c4 h => ?_)
    · refine j_lconst C dX1_weigh_15 (v := (1 : Int64)) (by decide) ?_
      refine j_goto C dX1_weigh_16 (tgt := 20) (by decide) ?_
      refine j_sub (lv' := []) [] rfl ?_
      exact L20 ((1 : Int64)) t_above t_below h
    · refine j_lconst C dX1_weigh_19 (v := (0 : Int64)) (by decide) ?_
      refine j_sub (lv' := []) [] rfl ?_
      exact L20 ((0 : Int64)) t_above t_below h
  · refine j_iload C dX1_weigh_27 4 rfl ?_
    refine j_if_gt C (tgt := 41) dX1_weigh_29 (by decide) h (fun c8 h => ?_) (fun c8 h => ?_)
    · refine j_aload_n C dX1_weigh_41 rfl 0 rfl ?_
      refine j_aload_n C dX1_weigh_42 rfl 1 rfl ?_
      refine j_iload_n C dX1_weigh_43 rfl 2 rfl ?_
      refine j_iload_n C dX1_weigh_44 rfl 3 rfl ?_
      refine j_iload C dX1_weigh_45 4 rfl ?_
      obtain ⟨r9, q10, h⟩ := jl_bind h
      refine j_cV0 C (mX1_weighAll (jlaunch X) D F rec fr lo hrec h_t h_a1 h_a1_ruledOut t_above t_below a1_rows a1_columns a1_paints a1_apart a1_paintsOf0 a1_paintsOf1 a1_old a1_shut a1_all a1_firstColumn a1_fitsAtFirst a1_paintingsOf0 a1_paintingsOf1 a1_ruledOut_ p2 p3 p4 r9 q10) bmX1_35 biX1_weighAll bsX1_weighAll bzX1 bcX1_weighAll rfl hX1_weighAll (rest := []) rfl (by refine ⟨rfl, rfl, ⟨?_, ?_⟩, ?_, ?_⟩ <;> dsimp only <;> omega) 0 (ci := 1) rfl rfl rfl [0, 1, 2] [] [0, 1, 2] (wr := []) (ws2 := [(h_t, .inr (1, [.long r9.1, .long r9.2])), (h_a1, .inr (2, [.int a1_rows, .int a1_columns, .int a1_paints, .int a1_apart, .int a1_paintsOf0, .int a1_paintsOf1, .int a1_old, .int a1_shut, .int a1_all, .int a1_firstColumn, .int a1_fitsAtFirst, .int a1_paintingsOf0, .int a1_paintingsOf1, .ref h_a1_ruledOut])), (h_a1_ruledOut, jI D 27 a1_ruledOut_)]) rfl rfl rfl rfl rfl (Nat.le_of_ble_eq_true rfl) dX1_weigh_47 ?_
      exact j_vretR C (r := r) (rtf := fun r => none) (wff := fun r => (oX1_weigh D h_t h_a1 h_a1_ruledOut a1_rows a1_columns a1_paints a1_apart a1_paintsOf0 a1_paintsOf1 a1_old a1_shut a1_all a1_firstColumn a1_fitsAtFirst a1_paintingsOf0 a1_paintingsOf1 a1_ruledOut_ r)) E h rfl rfl dX1_weigh_50
    · refine j_aload_n C dX1_weigh_32 rfl 0 rfl ?_
      refine j_lconst C dX1_weigh_33 (v := (0 : Int64)) (by decide) ?_
      refine j_lconst C dX1_weigh_34 (v := (1 : Int64)) (by decide) ?_
      obtain ⟨r11, q12, h⟩ := jl_bind h
      refine j_cV0 C (mX1_settle (jlaunch X) D F h_t t_above t_below ((0 : Int64)) ((1 : Int64)) r11 q12) bmX1_31 biX1_settle bsX1_settle bzX1 bcX1_settle rfl hX1_settle (rest := []) rfl (by refine ⟨rfl, rfl, ⟨?_, ?_⟩, ?_, ?_⟩ <;> dsimp only <;> omega) 0 (ci := 1) rfl rfl rfl [0] [1, 2] [2, 0, 1] (wr := [(h_a1, .inr (2, [.int a1_rows, .int a1_columns, .int a1_paints, .int a1_apart, .int a1_paintsOf0, .int a1_paintsOf1, .int a1_old, .int a1_shut, .int a1_all, .int a1_firstColumn, .int a1_fitsAtFirst, .int a1_paintingsOf0, .int a1_paintingsOf1, .ref h_a1_ruledOut])), (h_a1_ruledOut, jI D 27 a1_ruledOut_)]) (ws2 := [(h_t, .inr (1, [.long r11.1, .long r11.2])), (h_a1, .inr (2, [.int a1_rows, .int a1_columns, .int a1_paints, .int a1_apart, .int a1_paintsOf0, .int a1_paintsOf1, .int a1_old, .int a1_shut, .int a1_all, .int a1_firstColumn, .int a1_fitsAtFirst, .int a1_paintingsOf0, .int a1_paintingsOf1, .ref h_a1_ruledOut])), (h_a1_ruledOut, jI D 27 a1_ruledOut_)]) rfl rfl rfl rfl rfl (Nat.le_of_ble_eq_true rfl) dX1_weigh_35 ?_
      refine j_goto C dX1_weigh_38 (tgt := 50) (by decide) ?_
      exact j_vretR C (r := r) (rtf := fun r => none) (wff := fun r => (oX1_weigh D h_t h_a1 h_a1_ruledOut a1_rows a1_columns a1_paints a1_apart a1_paintsOf0 a1_paintsOf1 a1_old a1_shut a1_all a1_firstColumn a1_fitsAtFirst a1_paintingsOf0 a1_paintingsOf1 a1_ruledOut_ r)) E h rfl rfl dX1_weigh_50
set_option maxHeartbeats 4000000 in
theorem mX1_weigh (l : Launch) (D : jv_D) (F : Nat) (d : Nat) : ∀ (h_t : Nat) (h_a1 : Nat) (h_a1_ruledOut : Nat) (t_above : Int64) (t_below : Int64) (a1_rows : Int32) (a1_columns : Int32) (a1_paints : Int32) (a1_apart : Int32) (a1_paintsOf0 : Int32) (a1_paintsOf1 : Int32) (a1_old : Int32) (a1_shut : Int32) (a1_all : Int32) (a1_firstColumn : Int32) (a1_fitsAtFirst : Int32) (a1_paintingsOf0 : Int32) (a1_paintingsOf1 : Int32) (a1_ruledOut_ : Nat → Int32) (p2 : Int32) (p3 : Int32) (p4 : Int32) (r : Int64 × Int64), fX1_weigh F d t_above t_below a1_paintingsOf0 a1_paintingsOf1 a1_ruledOut_ p2 p3 p4 = some r → MM l yX1_weigh (jW yX1_weigh cX1_weigh 5 none) ({ frames := 3 * d, cells := 0, slots := 0, locals := 86 * d }) D [.ref h_t, .ref h_a1, .int p2, .int p3, .int p4] [(h_t, .inr (1, [.long t_above, .long t_below])), (h_a1, .inr (2, [.int a1_rows, .int a1_columns, .int a1_paints, .int a1_apart, .int a1_paintsOf0, .int a1_paintsOf1, .int a1_old, .int a1_shut, .int a1_all, .int a1_firstColumn, .int a1_fitsAtFirst, .int a1_paintingsOf0, .int a1_paintingsOf1, .ref h_a1_ruledOut])), (h_a1_ruledOut, jI D 27 a1_ruledOut_)] none (oX1_weigh D h_t h_a1 h_a1_ruledOut a1_rows a1_columns a1_paints a1_apart a1_paintsOf0 a1_paintsOf1 a1_old a1_shut a1_all a1_firstColumn a1_fitsAtFirst a1_paintingsOf0 a1_paintingsOf1 a1_ruledOut_ r) := by
  induction d with
  | zero => intro h_t h_a1 h_a1_ruledOut t_above t_below a1_rows a1_columns a1_paints a1_apart a1_paintsOf0 a1_paintsOf1 a1_old a1_shut a1_all a1_firstColumn a1_fitsAtFirst a1_paintingsOf0 a1_paintingsOf1 a1_ruledOut_ p2 p3 p4 r h; exact absurd (show (none : Option (Int64 × Int64)) = some r from h) (by intro e; cases e)
  | succ d ih => intro h_t h_a1 h_a1_ruledOut t_above t_below a1_rows a1_columns a1_paints a1_apart a1_paintsOf0 a1_paintsOf1 a1_old a1_shut a1_all a1_firstColumn a1_fitsAtFirst a1_paintingsOf0 a1_paintingsOf1 a1_ruledOut_ p2 p3 p4 r h; exact mgX1_weigh l D F (fX1_weigh F d) (3 * d) (86 * d) ih h_t h_a1 h_a1_ruledOut t_above t_below a1_rows a1_columns a1_paints a1_apart a1_paintsOf0 a1_paintsOf1 a1_old a1_shut a1_all a1_firstColumn a1_fitsAtFirst a1_paintingsOf0 a1_paintingsOf1 a1_ruledOut_ p2 p3 p4 r h
theorem dX1_chance_0 : decode cX1_chance 0 = .ok (.aload_n 0, 1) := by decide +kernel
theorem dX1_chance_1 : decode cX1_chance 1 = .ok (.aload_n 1, 1) := by decide +kernel
theorem dX1_chance_2 : decode cX1_chance 2 = .ok (.aload_n 1, 1) := by decide +kernel
theorem dX1_chance_3 : decode cX1_chance 3 = .ok (.iload_n 2, 1) := by decide +kernel
theorem dX1_chance_4 : decode cX1_chance 4 = .ok (.invokevirtual 9, 3) := by decide +kernel
theorem dX1_chance_7 : decode cX1_chance 7 = .ok (.iload_n 3, 1) := by decide +kernel
theorem dX1_chance_8 : decode cX1_chance 8 = .ok (.iload 4, 2) := by decide +kernel
theorem dX1_chance_10 : decode cX1_chance 10 = .ok (.invokevirtual 15, 3) := by decide +kernel
theorem dX1_chance_13 : decode cX1_chance 13 = .ok (.iload 5, 2) := by decide +kernel
theorem dX1_chance_15 : decode cX1_chance 15 = .ok (.ifCond .ne 10, 3) := by decide +kernel
theorem dX1_chance_18 : decode cX1_chance 18 = .ok (.aload_n 0, 1) := by decide +kernel
theorem dX1_chance_19 : decode cX1_chance 19 = .ok (.getfield 21, 3) := by decide +kernel
theorem dX1_chance_22 : decode cX1_chance 22 = .ok (.goto 7, 3) := by decide +kernel
theorem dX1_chance_25 : decode cX1_chance 25 = .ok (.aload_n 0, 1) := by decide +kernel
theorem dX1_chance_26 : decode cX1_chance 26 = .ok (.getfield 25, 3) := by decide +kernel
theorem dX1_chance_29 : decode cX1_chance 29 = .ok (.lreturn, 1) := by decide +kernel
def fX1_chance (F : Nat) (t_above : Int64) (t_below : Int64) (a1_fitsAtFirst : Int32) (a1_paintingsOf0 : Int32) (a1_paintingsOf1 : Int32) (a1_ruledOut_ : Nat → Int32) (p2 : Int32) (p3 : Int32) (p4 : Int32) (p5 : Int32) : Option (Int64 × Int64 × Int64) :=
((fX3_fitting F a1_fitsAtFirst a1_ruledOut_ p2).bind fun r1 =>
((fX1_weigh F 4 t_above t_below a1_paintingsOf0 a1_paintingsOf1 a1_ruledOut_ r1 p3 p4).bind fun r3 =>
(if p5 = 0 then
(some (r3.1, r3.1, r3.2))
else
(some (r3.2, r3.1, r3.2)))))
def oX1_chance (D : jv_D) (h_t : Nat) (h_a1 : Nat) (h_a1_ruledOut : Nat) (a1_rows : Int32) (a1_columns : Int32) (a1_paints : Int32) (a1_apart : Int32) (a1_paintsOf0 : Int32) (a1_paintsOf1 : Int32) (a1_old : Int32) (a1_shut : Int32) (a1_all : Int32) (a1_firstColumn : Int32) (a1_fitsAtFirst : Int32) (a1_paintingsOf0 : Int32) (a1_paintingsOf1 : Int32) (a1_ruledOut_ : Nat → Int32) (r : Int64 × Int64 × Int64) : va_W := [(h_t, .inr (1, [.long r.2.1, .long r.2.2])), (h_a1, .inr (2, [.int a1_rows, .int a1_columns, .int a1_paints, .int a1_apart, .int a1_paintsOf0, .int a1_paintsOf1, .int a1_old, .int a1_shut, .int a1_all, .int a1_firstColumn, .int a1_fitsAtFirst, .int a1_paintingsOf0, .int a1_paintingsOf1, .ref h_a1_ruledOut])), (h_a1_ruledOut, jI D 27 a1_ruledOut_)]
set_option maxHeartbeats 40000000 in
set_option maxRecDepth 100000 in
theorem mX1_chance (l : Launch) (D : jv_D) (F : Nat) (h_t : Nat) (h_a1 : Nat) (h_a1_ruledOut : Nat) (t_above : Int64) (t_below : Int64) (a1_rows : Int32) (a1_columns : Int32) (a1_paints : Int32) (a1_apart : Int32) (a1_paintsOf0 : Int32) (a1_paintsOf1 : Int32) (a1_old : Int32) (a1_shut : Int32) (a1_all : Int32) (a1_firstColumn : Int32) (a1_fitsAtFirst : Int32) (a1_paintingsOf0 : Int32) (a1_paintingsOf1 : Int32) (a1_ruledOut_ : Nat → Int32) (p2 : Int32) (p3 : Int32) (p4 : Int32) (p5 : Int32) (r : Int64 × Int64 × Int64) (h : fX1_chance F t_above t_below a1_fitsAtFirst a1_paintingsOf0 a1_paintingsOf1 a1_ruledOut_ p2 p3 p4 p5 = some r) : MM l yX1_chance (jW yX1_chance cX1_chance 6 (some .long)) ({ frames := 13, cells := 0, slots := 0, locals := 368 }) D [.ref h_t, .ref h_a1, .int p2, .int p3, .int p4, .int p5] [(h_t, .inr (1, [.long t_above, .long t_below])), (h_a1, .inr (2, [.int a1_rows, .int a1_columns, .int a1_paints, .int a1_apart, .int a1_paintsOf0, .int a1_paintsOf1, .int a1_old, .int a1_shut, .int a1_all, .int a1_firstColumn, .int a1_fitsAtFirst, .int a1_paintingsOf0, .int a1_paintingsOf1, .ref h_a1_ruledOut])), (h_a1_ruledOut, jI D 27 a1_ruledOut_)] (some (.long r.1)) (oX1_chance D h_t h_a1 h_a1_ruledOut a1_rows a1_columns a1_paints a1_apart a1_paintsOf0 a1_paintsOf1 a1_old a1_shut a1_all a1_firstColumn a1_fitsAtFirst a1_paintingsOf0 a1_paintingsOf1 a1_ruledOut_ r) := by
  refine mn_of hpX1_chance (Nat.le_of_ble_eq_true rfl) ?_
  intro X hXl C E0 hN
  subst hXl
  replace C : JC D X 6 RX1 cX1_chance ({ frames := 13, cells := 0, slots := 0, locals := 368 }) := C
  have E : JE D X 0 0 (some .long) (fun _ : Unit => (some (.long r.1))) (fun _ : Unit => (oX1_chance D h_t h_a1 h_a1_ruledOut a1_rows a1_columns a1_paints a1_apart a1_paintsOf0 a1_paintsOf1 a1_old a1_shut a1_all a1_firstColumn a1_fitsAtFirst a1_paintingsOf0 a1_paintingsOf1 a1_ruledOut_ r)) := E0 0 0 rfl rfl
  clear E0 hN
  show JJ D X 6 0 0 0 [(0, .ref h_t), (1, .ref h_a1), (2, .int p2), (3, .int p3), (4, .int p4), (5, .int p5)] [] [(h_t, .inr (1, [.long t_above, .long t_below])), (h_a1, .inr (2, [.int a1_rows, .int a1_columns, .int a1_paints, .int a1_apart, .int a1_paintsOf0, .int a1_paintsOf1, .int a1_old, .int a1_shut, .int a1_all, .int a1_firstColumn, .int a1_fitsAtFirst, .int a1_paintingsOf0, .int a1_paintingsOf1, .ref h_a1_ruledOut])), (h_a1_ruledOut, jI D 27 a1_ruledOut_)]
  unfold fX1_chance at h
  refine j_aload_n C dX1_chance_0 rfl 0 rfl ?_
  refine j_aload_n C dX1_chance_1 rfl 1 rfl ?_
  refine j_aload_n C dX1_chance_2 rfl 1 rfl ?_
  refine j_iload_n C dX1_chance_3 rfl 2 rfl ?_
  obtain ⟨r1, q2, h⟩ := jl_bind h
  refine j_cV1 C (mX3_fitting (jlaunch X) D F h_a1 h_a1_ruledOut a1_rows a1_columns a1_paints a1_apart a1_paintsOf0 a1_paintsOf1 a1_old a1_shut a1_all a1_firstColumn a1_fitsAtFirst a1_paintingsOf0 a1_paintingsOf1 a1_ruledOut_ p2 r1 q2) bmX1_9 biX3_fitting bsX3_fitting bzX3 bcX3_fitting rfl hX3_fitting (rest := [.ref h_a1, .ref h_t]) rfl (jroom_of rfl) 0 (ci := 2) rfl rfl rfl [1, 2] [0] [0, 1, 2] (wr := [(h_t, .inr (1, [.long t_above, .long t_below]))]) (ws2 := [(h_t, .inr (1, [.long t_above, .long t_below])), (h_a1, .inr (2, [.int a1_rows, .int a1_columns, .int a1_paints, .int a1_apart, .int a1_paintsOf0, .int a1_paintsOf1, .int a1_old, .int a1_shut, .int a1_all, .int a1_firstColumn, .int a1_fitsAtFirst, .int a1_paintingsOf0, .int a1_paintingsOf1, .ref h_a1_ruledOut])), (h_a1_ruledOut, jI D 27 a1_ruledOut_)]) rfl rfl rfl rfl rfl (Nat.le_of_ble_eq_true rfl) dX1_chance_4 ?_
  refine j_iload_n C dX1_chance_7 rfl 3 rfl ?_
  refine j_iload C dX1_chance_8 4 rfl ?_
  obtain ⟨r3, q4, h⟩ := jl_bind h
  refine j_cV0 C (mX1_weigh (jlaunch X) D F 4 h_t h_a1 h_a1_ruledOut t_above t_below a1_rows a1_columns a1_paints a1_apart a1_paintsOf0 a1_paintsOf1 a1_old a1_shut a1_all a1_firstColumn a1_fitsAtFirst a1_paintingsOf0 a1_paintingsOf1 a1_ruledOut_ r1 p3 p4 r3 q4) bmX1_15 biX1_weigh bsX1_weigh bzX1 bcX1_weigh rfl hX1_weigh (rest := []) rfl (jroom_of rfl) 0 (ci := 1) rfl rfl rfl [0, 1, 2] [] [0, 1, 2] (wr := []) (ws2 := [(h_t, .inr (1, [.long r3.1, .long r3.2])), (h_a1, .inr (2, [.int a1_rows, .int a1_columns, .int a1_paints, .int a1_apart, .int a1_paintsOf0, .int a1_paintsOf1, .int a1_old, .int a1_shut, .int a1_all, .int a1_firstColumn, .int a1_fitsAtFirst, .int a1_paintingsOf0, .int a1_paintingsOf1, .ref h_a1_ruledOut])), (h_a1_ruledOut, jI D 27 a1_ruledOut_)]) rfl rfl rfl rfl rfl (Nat.le_of_ble_eq_true rfl) dX1_chance_10 ?_
  refine j_iload C dX1_chance_13 5 rfl ?_
  refine j_if_ne C (tgt := 25) dX1_chance_15 (by decide) h (fun c5 h => ?_) (fun c5 h => ?_)
  · refine j_aload_n C dX1_chance_18 rfl 0 rfl ?_
    refine j_get C ibX1 (ci := 1) 0 rfl rfl 0 (by decide) bfX1_21 (v := .long r3.1) rfl dX1_chance_19 ?_
    refine j_goto C dX1_chance_22 (tgt := 29) (by decide) ?_
    exact j_lretR C (r := r) (rtf := fun r => (some (.long r.1))) (wff := fun r => (oX1_chance D h_t h_a1 h_a1_ruledOut a1_rows a1_columns a1_paints a1_apart a1_paintsOf0 a1_paintsOf1 a1_old a1_shut a1_all a1_firstColumn a1_fitsAtFirst a1_paintingsOf0 a1_paintingsOf1 a1_ruledOut_ r)) E h rfl rfl dX1_chance_29
  · refine j_aload_n C dX1_chance_25 rfl 0 rfl ?_
    refine j_get C ibX1 (ci := 1) 0 rfl rfl 1 (by decide) bfX1_25 (v := .long r3.2) rfl dX1_chance_26 ?_
    exact j_lretR C (r := r) (rtf := fun r => (some (.long r.1))) (wff := fun r => (oX1_chance D h_t h_a1 h_a1_ruledOut a1_rows a1_columns a1_paints a1_apart a1_paintsOf0 a1_paintsOf1 a1_old a1_shut a1_all a1_firstColumn a1_fitsAtFirst a1_paintingsOf0 a1_paintingsOf1 a1_ruledOut_ r)) E h rfl rfl dX1_chance_29
theorem dX1_picked_0 : decode cX1_picked 0 = .ok (.iload_n 1, 1) := by decide +kernel
theorem dX1_picked_1 : decode cX1_picked 1 = .ok (.istore_n 2, 1) := by decide +kernel
theorem dX1_picked_2 : decode cX1_picked 2 = .ok (.iconst 0, 1) := by decide +kernel
theorem dX1_picked_3 : decode cX1_picked 3 = .ok (.istore_n 3, 1) := by decide +kernel
theorem dX1_picked_4 : decode cX1_picked 4 = .ok (.iload_n 3, 1) := by decide +kernel
theorem dX1_picked_5 : decode cX1_picked 5 = .ok (.bipush 9, 2) := by decide +kernel
theorem dX1_picked_7 : decode cX1_picked 7 = .ok (.if_icmp .ge 49, 3) := by decide +kernel
theorem dX1_picked_10 : decode cX1_picked 10 = .ok (.iconst 1, 1) := by decide +kernel
theorem dX1_picked_11 : decode cX1_picked 11 = .ok (.istore 4, 2) := by decide +kernel
theorem dX1_picked_13 : decode cX1_picked 13 = .ok (.iload 4, 2) := by decide +kernel
theorem dX1_picked_15 : decode cX1_picked 15 = .ok (.iconst 3, 1) := by decide +kernel
theorem dX1_picked_16 : decode cX1_picked 16 = .ok (.if_icmp .gt 34, 3) := by decide +kernel
theorem dX1_picked_19 : decode cX1_picked 19 = .ok (.iload_n 3, 1) := by decide +kernel
theorem dX1_picked_20 : decode cX1_picked 20 = .ok (.iload 4, 2) := by decide +kernel
theorem dX1_picked_22 : decode cX1_picked 22 = .ok (.invokestatic 60, 3) := by decide +kernel
theorem dX1_picked_25 : decode cX1_picked 25 = .ok (.istore 5, 2) := by decide +kernel
theorem dX1_picked_27 : decode cX1_picked 27 = .ok (.iload_n 0, 1) := by decide +kernel
theorem dX1_picked_28 : decode cX1_picked 28 = .ok (.iload 5, 2) := by decide +kernel
theorem dX1_picked_30 : decode cX1_picked 30 = .ok (.iand, 1) := by decide +kernel
theorem dX1_picked_31 : decode cX1_picked 31 = .ok (.ifCond .eq 13, 3) := by decide +kernel
theorem dX1_picked_34 : decode cX1_picked 34 = .ok (.iload_n 2, 1) := by decide +kernel
theorem dX1_picked_35 : decode cX1_picked 35 = .ok (.iinc 2 (-1), 3) := by decide +kernel
theorem dX1_picked_38 : decode cX1_picked 38 = .ok (.ifCond .ne 6, 3) := by decide +kernel
theorem dX1_picked_41 : decode cX1_picked 41 = .ok (.iload 5, 2) := by decide +kernel
theorem dX1_picked_43 : decode cX1_picked 43 = .ok (.ireturn, 1) := by decide +kernel
theorem dX1_picked_44 : decode cX1_picked 44 = .ok (.iinc 4 1, 3) := by decide +kernel
theorem dX1_picked_47 : decode cX1_picked 47 = .ok (.goto (-34), 3) := by decide +kernel
theorem dX1_picked_50 : decode cX1_picked 50 = .ok (.iinc 3 1, 3) := by decide +kernel
theorem dX1_picked_53 : decode cX1_picked 53 = .ok (.goto (-49), 3) := by decide +kernel
theorem dX1_picked_56 : decode cX1_picked 56 = .ok (.iconst 0, 1) := by decide +kernel
theorem dX1_picked_57 : decode cX1_picked 57 = .ok (.ireturn, 1) := by decide +kernel
def bX1_picked_13 (F : Nat) (p0 : Int32) (p1 : Int32) (k4 : Int32 → Int32 → Option (Int32)) (k13 : Int32 → Int32 → Int32 → Option (Int32)) (x4 : Int32) (x5 : Int32) (x6 : Int32) : Option (Int32) :=
(if ((3 : Int32)) < x6 then
(jl_let (x5 + Int32.ofInt (1)) fun v8 =>
(k4 x4 v8))
else
((fX3_painting x5 x6).bind fun r9 =>
(if (p0 &&& r9) = 0 then
(jl_let (x6 + Int32.ofInt (1)) fun v12 =>
(k13 x4 x5 v12))
else
(jl_let (x4 + Int32.ofInt (-1)) fun v13 =>
(if x4 = 0 then
(some (r9))
else
(jl_let (x6 + Int32.ofInt (1)) fun v15 =>
(k13 v13 x5 v15)))))))
def lX1_picked_13 (F : Nat) (p0 : Int32) (p1 : Int32) (k4 : Int32 → Int32 → Option (Int32)) (F2 : Nat) (x4 : Int32) (x5 : Int32) (x6 : Int32) : Option (Int32) := jl_loop3 (bX1_picked_13 F p0 p1 k4) F2 x4 x5 x6
def bX1_picked_4 (F : Nat) (p0 : Int32) (p1 : Int32)  (k4 : Int32 → Int32 → Option (Int32)) (x1 : Int32) (x2 : Int32) : Option (Int32) :=
(if ((9 : Int32)) ≤ x2 then
(some ((0 : Int32)))
else
(lX1_picked_13 F p0 p1 k4 F x1 x2 ((1 : Int32))))
def lX1_picked_4 (F : Nat) (p0 : Int32) (p1 : Int32)  (F2 : Nat) (x1 : Int32) (x2 : Int32) : Option (Int32) := jl_loop2 (bX1_picked_4 F p0 p1 ) F2 x1 x2
def fX1_picked (F : Nat) (p0 : Int32) (p1 : Int32) : Option (Int32) :=
(lX1_picked_4 F p0 p1 F p1 ((0 : Int32)))
def oX1_picked (D : jv_D)  (r : Int32) : va_W := []
set_option maxHeartbeats 40000000 in
set_option maxRecDepth 100000 in
theorem mX1_picked (l : Launch) (D : jv_D) (F : Nat) (p0 : Int32) (p1 : Int32) (r : Int32) (h : fX1_picked F p0 p1 = some r) : MM l yX1_picked (jW yX1_picked cX1_picked 6 (some .int)) ({ frames := 1, cells := 0, slots := 0, locals := 21 }) D [.int p0, .int p1] [] (some (.int r)) (oX1_picked D  r) := by
  refine mn_of hpX1_picked (Nat.le_of_ble_eq_true rfl) ?_
  intro X hXl C E0 hN
  subst hXl
  replace C : JC D X 6 RX1 cX1_picked ({ frames := 1, cells := 0, slots := 0, locals := 21 }) := C
  have E : JE D X 0 0 (some .int) (fun _ : Unit => (some (.int r))) (fun _ : Unit => (oX1_picked D  r)) := E0 0 0 rfl rfl
  clear E0 hN
  show JJ D X 6 0 0 0 [(0, .int p0), (1, .int p1)] [] []
  unfold fX1_picked at h
  have L4 : ∀ (x1 : Int32) (x2 : Int32), lX1_picked_4 F p0 p1  F x1 x2 = some r → JJ D X 6 0 0 4 [(0, .int p0), (2, .int x1), (3, .int x2)] [] [] := by
    intro x1 x2 h
    refine jl_ind2 (fun x1 x2 => JJ D X 6 0 0 4 [(0, .int p0), (2, .int x1), (3, .int x2)] [] []) ?_ F x1 x2 h
    clear h x1 x2
    intro k4 i4 x1 x2 h
    replace i4 : ∀ (x1 : Int32) (x2 : Int32), k4 x1 x2 = some r → JJ D X 6 0 0 4 [(0, .int p0), (2, .int x1), (3, .int x2)] [] [] := i4
    show JJ D X 6 0 0 4 [(0, .int p0), (2, .int x1), (3, .int x2)] [] []
    unfold bX1_picked_4 at h
    have L13 : ∀ (x4 : Int32) (x5 : Int32) (x6 : Int32), lX1_picked_13 F p0 p1 k4 F x4 x5 x6 = some r → JJ D X 6 0 0 13 [(0, .int p0), (2, .int x4), (3, .int x5), (4, .int x6)] [] [] := by
      intro x4 x5 x6 h
      refine jl_ind3 (fun x4 x5 x6 => JJ D X 6 0 0 13 [(0, .int p0), (2, .int x4), (3, .int x5), (4, .int x6)] [] []) ?_ F x4 x5 x6 h
      clear h x4 x5 x6
      intro k13 i13 x4 x5 x6 h
      replace i13 : ∀ (x4 : Int32) (x5 : Int32) (x6 : Int32), k13 x4 x5 x6 = some r → JJ D X 6 0 0 13 [(0, .int p0), (2, .int x4), (3, .int x5), (4, .int x6)] [] [] := i13
      show JJ D X 6 0 0 13 [(0, .int p0), (2, .int x4), (3, .int x5), (4, .int x6)] [] []
      unfold bX1_picked_13 at h
      refine j_iload C dX1_picked_13 3 rfl ?_
      refine j_iconst C dX1_picked_15 (v := (3 : Int32)) (by decide) ?_
      refine j_icmp_gt C (tgt := 50) dX1_picked_16 (by decide) h (fun c7 h => ?_) (fun c7 h => ?_)
      · refine j_iinc C dX1_picked_50 2 rfl (lv' := fun v8 => [(3, .int v8), (0, .int p0), (2, .int x4), (4, .int x6)]) (by decide) (fun _ => rfl) h (fun v8 h => ?_)
        refine j_goto C dX1_picked_53 (tgt := 4) (by decide) ?_
        refine j_sub (lv' := [(0, .int p0), (2, .int x4), (3, .int v8)]) [1, 2, 0] rfl ?_
        exact i4 x4 v8 h
      · refine j_iload_n C dX1_picked_19 rfl 2 rfl ?_
        refine j_iload C dX1_picked_20 3 rfl ?_
        obtain ⟨r9, q10, h⟩ := jl_bind h
        refine j_cS1 C (mX3_painting (jlaunch X) D x5 x6 r9 q10) bmX1_60 btX3_painting bzX3 bcX3_painting hX3_painting (rest := []) rfl (jroom_of rfl) [] [] [] (wr := []) (ws2 := []) rfl rfl rfl rfl rfl (Nat.le_of_ble_eq_true rfl) dX1_picked_22 ?_
        refine j_istoreC C dX1_picked_25 (lv' := [(5, .int r9), (0, .int p0), (2, .int x4), (3, .int x5), (4, .int x6)]) (by decide) rfl ?_
        refine j_iload_n C dX1_picked_27 rfl 1 rfl ?_
        refine j_iload C dX1_picked_28 0 rfl ?_
        refine j_iand C dX1_picked_30 ?_
        refine j_if_eq C (tgt := 44) dX1_picked_31 (by decide) h (fun c11 h => ?_) (fun c11 h => ?_)
        · refine j_iinc C dX1_picked_44 4 rfl (lv' := fun v12 => [(4, .int v12), (5, .int r9), (0, .int p0), (2, .int x4), (3, .int x5)]) (by decide) (fun _ => rfl) h (fun v12 h => ?_)
          refine j_goto C dX1_picked_47 (tgt := 13) (by decide) ?_
          refine j_sub (lv' := [(0, .int p0), (2, .int x4), (3, .int x5), (4, .int v12)]) [2, 3, 4, 0] rfl ?_
          exact i13 x4 x5 v12 h
        · refine j_iload_n C dX1_picked_34 rfl 2 rfl ?_
          refine j_iinc C dX1_picked_35 2 rfl (lv' := fun v13 => [(2, .int v13), (5, .int r9), (0, .int p0), (3, .int x5), (4, .int x6)]) (by decide) (fun _ => rfl) h (fun v13 h => ?_)
          refine j_if_ne C (tgt := 44) dX1_picked_38 (by decide) h (fun c14 h => ?_) (fun c14 h => ?_)
          · refine j_iload C dX1_picked_41 1 rfl ?_
            exact j_iretR C (r := r) (rtf := fun r => (some (.int r))) (wff := fun r => (oX1_picked D  r)) E h rfl rfl dX1_picked_43
          · refine j_iinc C dX1_picked_44 4 rfl (lv' := fun v15 => [(4, .int v15), (2, .int v13), (5, .int r9), (0, .int p0), (3, .int x5)]) (by decide) (fun _ => rfl) h (fun v15 h => ?_)
            refine j_goto C dX1_picked_47 (tgt := 13) (by decide) ?_
            refine j_sub (lv' := [(0, .int p0), (2, .int v13), (3, .int x5), (4, .int v15)]) [3, 1, 4, 0] rfl ?_
            exact i13 v13 x5 v15 h
    refine j_iload_n C dX1_picked_4 rfl 2 rfl ?_
    refine j_bipush C dX1_picked_5 (v := (9 : Int32)) (by decide) ?_
    refine j_icmp_ge C (tgt := 56) dX1_picked_7 (by decide) h (fun c3 h => ?_) (fun c3 h => ?_)
    · refine j_iconst C dX1_picked_56 (v := (0 : Int32)) (by decide) ?_
      exact j_iretR C (r := r) (rtf := fun r => (some (.int r))) (wff := fun r => (oX1_picked D  r)) E h rfl rfl dX1_picked_57
    · refine j_iconst C dX1_picked_10 (v := (1 : Int32)) (by decide) ?_
      refine j_istoreC C dX1_picked_11 (lv' := [(4, .int ((1 : Int32))), (0, .int p0), (2, .int x1), (3, .int x2)]) (by decide) rfl ?_
      refine j_sub (lv' := [(0, .int p0), (2, .int x1), (3, .int x2), (4, .int ((1 : Int32)))]) [1, 2, 3, 0] rfl ?_
      exact L13 x1 x2 ((1 : Int32)) h
  refine j_iload_n C dX1_picked_0 rfl 1 rfl ?_
  refine j_istore_nC C dX1_picked_1 rfl (lv' := [(2, .int p1), (0, .int p0), (1, .int p1)]) (by decide) rfl ?_
  refine j_iconst C dX1_picked_2 (v := (0 : Int32)) (by decide) ?_
  refine j_istore_nC C dX1_picked_3 rfl (lv' := [(3, .int ((0 : Int32))), (2, .int p1), (0, .int p0), (1, .int p1)]) (by decide) rfl ?_
  refine j_sub (lv' := [(0, .int p0), (2, .int p1), (3, .int ((0 : Int32)))]) [2, 1, 0] rfl ?_
  exact L4 p1 ((0 : Int32)) h
theorem dX1_draw_0 : decode cX1_draw 0 = .ok (.aload_n 1, 1) := by decide +kernel
theorem dX1_draw_1 : decode cX1_draw 1 = .ok (.iload_n 2, 1) := by decide +kernel
theorem dX1_draw_2 : decode cX1_draw 2 = .ok (.invokevirtual 9, 3) := by decide +kernel
theorem dX1_draw_5 : decode cX1_draw 5 = .ok (.istore 6, 2) := by decide +kernel
theorem dX1_draw_7 : decode cX1_draw 7 = .ok (.iload_n 2, 1) := by decide +kernel
theorem dX1_draw_8 : decode cX1_draw 8 = .ok (.invokestatic 42, 3) := by decide +kernel
theorem dX1_draw_11 : decode cX1_draw 11 = .ok (.istore 7, 2) := by decide +kernel
theorem dX1_draw_13 : decode cX1_draw 13 = .ok (.iload_n 3, 1) := by decide +kernel
theorem dX1_draw_14 : decode cX1_draw 14 = .ok (.istore 8, 2) := by decide +kernel
theorem dX1_draw_16 : decode cX1_draw 16 = .ok (.iconst 0, 1) := by decide +kernel
theorem dX1_draw_17 : decode cX1_draw 17 = .ok (.istore 9, 2) := by decide +kernel
theorem dX1_draw_19 : decode cX1_draw 19 = .ok (.iload 9, 2) := by decide +kernel
theorem dX1_draw_21 : decode cX1_draw 21 = .ok (.bipush 9, 2) := by decide +kernel
theorem dX1_draw_23 : decode cX1_draw 23 = .ok (.if_icmp .ge 90, 3) := by decide +kernel
theorem dX1_draw_26 : decode cX1_draw 26 = .ok (.iload 6, 2) := by decide +kernel
theorem dX1_draw_28 : decode cX1_draw 28 = .ok (.aload_n 1, 1) := by decide +kernel
theorem dX1_draw_29 : decode cX1_draw 29 = .ok (.iload 8, 2) := by decide +kernel
theorem dX1_draw_31 : decode cX1_draw 31 = .ok (.invokevirtual 28, 3) := by decide +kernel
theorem dX1_draw_34 : decode cX1_draw 34 = .ok (.iand, 1) := by decide +kernel
theorem dX1_draw_35 : decode cX1_draw 35 = .ok (.istore 10, 2) := by decide +kernel
theorem dX1_draw_37 : decode cX1_draw 37 = .ok (.iload 10, 2) := by decide +kernel
theorem dX1_draw_39 : decode cX1_draw 39 = .ok (.invokestatic 42, 3) := by decide +kernel
theorem dX1_draw_42 : decode cX1_draw 42 = .ok (.istore 11, 2) := by decide +kernel
theorem dX1_draw_44 : decode cX1_draw 44 = .ok (.iload 11, 2) := by decide +kernel
theorem dX1_draw_46 : decode cX1_draw 46 = .ok (.ifCond .ne 6, 3) := by decide +kernel
theorem dX1_draw_49 : decode cX1_draw 49 = .ok (.goto 64, 3) := by decide +kernel
theorem dX1_draw_52 : decode cX1_draw 52 = .ok (.ldc2_w 51, 3) := by decide +kernel
theorem dX1_draw_55 : decode cX1_draw 55 = .ok (.iload 4, 2) := by decide +kernel
theorem dX1_draw_57 : decode cX1_draw 57 = .ok (.i2l, 1) := by decide +kernel
theorem dX1_draw_58 : decode cX1_draw 58 = .ok (.lmul, 1) := by decide +kernel
theorem dX1_draw_59 : decode cX1_draw 59 = .ok (.ldc2_w 53, 3) := by decide +kernel
theorem dX1_draw_62 : decode cX1_draw 62 = .ok (.iload 9, 2) := by decide +kernel
theorem dX1_draw_64 : decode cX1_draw 64 = .ok (.i2l, 1) := by decide +kernel
theorem dX1_draw_65 : decode cX1_draw 65 = .ok (.lmul, 1) := by decide +kernel
theorem dX1_draw_66 : decode cX1_draw 66 = .ok (.ladd, 1) := by decide +kernel
theorem dX1_draw_67 : decode cX1_draw 67 = .ok (.lconst 1, 1) := by decide +kernel
theorem dX1_draw_68 : decode cX1_draw 68 = .ok (.ladd, 1) := by decide +kernel
theorem dX1_draw_69 : decode cX1_draw 69 = .ok (.lstore 12, 2) := by decide +kernel
theorem dX1_draw_71 : decode cX1_draw 71 = .ok (.aload_n 1, 1) := by decide +kernel
theorem dX1_draw_72 : decode cX1_draw 72 = .ok (.iload 6, 2) := by decide +kernel
theorem dX1_draw_74 : decode cX1_draw 74 = .ok (.iload 10, 2) := by decide +kernel
theorem dX1_draw_76 : decode cX1_draw 76 = .ok (.lload 12, 2) := by decide +kernel
theorem dX1_draw_78 : decode cX1_draw 78 = .ok (.lload 12, 2) := by decide +kernel
theorem dX1_draw_80 : decode cX1_draw 80 = .ok (.lmul, 1) := by decide +kernel
theorem dX1_draw_81 : decode cX1_draw 81 = .ok (.ldc2_w 55, 3) := by decide +kernel
theorem dX1_draw_84 : decode cX1_draw 84 = .ok (.lrem, 1) := by decide +kernel
theorem dX1_draw_85 : decode cX1_draw 85 = .ok (.iload 11, 2) := by decide +kernel
theorem dX1_draw_87 : decode cX1_draw 87 = .ok (.i2l, 1) := by decide +kernel
theorem dX1_draw_88 : decode cX1_draw 88 = .ok (.lrem, 1) := by decide +kernel
theorem dX1_draw_89 : decode cX1_draw 89 = .ok (.l2i, 1) := by decide +kernel
theorem dX1_draw_90 : decode cX1_draw 90 = .ok (.invokestatic 57, 3) := by decide +kernel
theorem dX1_draw_93 : decode cX1_draw 93 = .ok (.invokevirtual 38, 3) := by decide +kernel
theorem dX1_draw_96 : decode cX1_draw 96 = .ok (.istore 6, 2) := by decide +kernel
theorem dX1_draw_98 : decode cX1_draw 98 = .ok (.iinc 7 1, 3) := by decide +kernel
theorem dX1_draw_101 : decode cX1_draw 101 = .ok (.iconst 1, 1) := by decide +kernel
theorem dX1_draw_102 : decode cX1_draw 102 = .ok (.iload 8, 2) := by decide +kernel
theorem dX1_draw_104 : decode cX1_draw 104 = .ok (.isub, 1) := by decide +kernel
theorem dX1_draw_105 : decode cX1_draw 105 = .ok (.istore 8, 2) := by decide +kernel
theorem dX1_draw_107 : decode cX1_draw 107 = .ok (.iinc 9 1, 3) := by decide +kernel
theorem dX1_draw_110 : decode cX1_draw 110 = .ok (.goto (-91), 3) := by decide +kernel
theorem dX1_draw_113 : decode cX1_draw 113 = .ok (.iload 5, 2) := by decide +kernel
theorem dX1_draw_115 : decode cX1_draw 115 = .ok (.ifCond .ne 8, 3) := by decide +kernel
theorem dX1_draw_118 : decode cX1_draw 118 = .ok (.iload 8, 2) := by decide +kernel
theorem dX1_draw_120 : decode cX1_draw 120 = .ok (.goto 5, 3) := by decide +kernel
theorem dX1_draw_123 : decode cX1_draw 123 = .ok (.iload 7, 2) := by decide +kernel
theorem dX1_draw_125 : decode cX1_draw 125 = .ok (.ireturn, 1) := by decide +kernel
def fX1_draw_113 (F : Nat) (a1_fitsAtFirst : Int32) (a1_paintingsOf0 : Int32) (a1_paintingsOf1 : Int32) (a1_ruledOut_ : Nat → Int32) (p2 : Int32) (p3 : Int32) (p4 : Int32) (p5 : Int32)  (x10 : Int32) (x11 : Int32) : Option (Int32) :=
(if p5 = 0 then
(some (x11))
else
(some (x10)))
def bX1_draw_19 (F : Nat) (a1_fitsAtFirst : Int32) (a1_paintingsOf0 : Int32) (a1_paintingsOf1 : Int32) (a1_ruledOut_ : Nat → Int32) (p2 : Int32) (p3 : Int32) (p4 : Int32) (p5 : Int32)  (k19 : Int32 → Int32 → Int32 → Int32 → Option (Int32)) (x5 : Int32) (x6 : Int32) (x7 : Int32) (x8 : Int32) : Option (Int32) :=
(if ((9 : Int32)) ≤ x8 then
(fX1_draw_113 F a1_fitsAtFirst a1_paintingsOf0 a1_paintingsOf1 a1_ruledOut_ p2 p3 p4 p5 x6 x7)
else
((fX3_paintingsOf a1_paintingsOf0 a1_paintingsOf1 x7).bind fun r12 =>
(jl_let (x5 &&& r12) fun v14 =>
((fJ6_bitCount_0f7a4 v14).bind fun r15 =>
(if r15 = 0 then
(fX1_draw_113 F a1_fitsAtFirst a1_paintingsOf0 a1_paintingsOf1 a1_ruledOut_ p2 p3 p4 p5 x6 x7)
else
(jl_let (((((7919 : Int64)) * p4.toInt64) + (((6151 : Int64)) * x8.toInt64)) + ((1 : Int64))) fun v18 =>
(if r15.toInt64 = 0 then none else
((fX1_picked F v14 ((((v18 * v18) - (v18 * v18) / ((65521 : Int64)) * ((65521 : Int64))) - ((v18 * v18) - (v18 * v18) / ((65521 : Int64)) * ((65521 : Int64))) / r15.toInt64 * r15.toInt64).toInt32)).bind fun r20 =>
((fX3_fittingAfter a1_ruledOut_ x5 r20).bind fun r22 =>
(jl_let (x6 + Int32.ofInt (1)) fun v24 =>
(jl_let (((1 : Int32)) - x7) fun v25 =>
(jl_let (x8 + Int32.ofInt (1)) fun v26 =>
(k19 r22 v24 v25 v26)))))))))))))
def lX1_draw_19 (F : Nat) (a1_fitsAtFirst : Int32) (a1_paintingsOf0 : Int32) (a1_paintingsOf1 : Int32) (a1_ruledOut_ : Nat → Int32) (p2 : Int32) (p3 : Int32) (p4 : Int32) (p5 : Int32)  (F2 : Nat) (x5 : Int32) (x6 : Int32) (x7 : Int32) (x8 : Int32) : Option (Int32) := jl_loop4 (bX1_draw_19 F a1_fitsAtFirst a1_paintingsOf0 a1_paintingsOf1 a1_ruledOut_ p2 p3 p4 p5 ) F2 x5 x6 x7 x8
def fX1_draw (F : Nat) (a1_fitsAtFirst : Int32) (a1_paintingsOf0 : Int32) (a1_paintingsOf1 : Int32) (a1_ruledOut_ : Nat → Int32) (p2 : Int32) (p3 : Int32) (p4 : Int32) (p5 : Int32) : Option (Int32) :=
((fX3_fitting F a1_fitsAtFirst a1_ruledOut_ p2).bind fun r1 =>
((fJ6_bitCount_0f7a4 p2).bind fun r3 =>
(lX1_draw_19 F a1_fitsAtFirst a1_paintingsOf0 a1_paintingsOf1 a1_ruledOut_ p2 p3 p4 p5 F r1 r3 p3 ((0 : Int32)))))
def oX1_draw (D : jv_D) (h_t : Nat) (h_a1 : Nat) (h_a1_ruledOut : Nat) (t_above : Int64) (t_below : Int64) (a1_rows : Int32) (a1_columns : Int32) (a1_paints : Int32) (a1_apart : Int32) (a1_paintsOf0 : Int32) (a1_paintsOf1 : Int32) (a1_old : Int32) (a1_shut : Int32) (a1_all : Int32) (a1_firstColumn : Int32) (a1_fitsAtFirst : Int32) (a1_paintingsOf0 : Int32) (a1_paintingsOf1 : Int32) (a1_ruledOut_ : Nat → Int32) (r : Int32) : va_W := [(h_t, .inr (1, [.long t_above, .long t_below])), (h_a1, .inr (2, [.int a1_rows, .int a1_columns, .int a1_paints, .int a1_apart, .int a1_paintsOf0, .int a1_paintsOf1, .int a1_old, .int a1_shut, .int a1_all, .int a1_firstColumn, .int a1_fitsAtFirst, .int a1_paintingsOf0, .int a1_paintingsOf1, .ref h_a1_ruledOut])), (h_a1_ruledOut, jI D 27 a1_ruledOut_)]
set_option maxHeartbeats 40000000 in
set_option maxRecDepth 100000 in
theorem mX1_draw (l : Launch) (D : jv_D) (F : Nat) (h_t : Nat) (h_a1 : Nat) (h_a1_ruledOut : Nat) (t_above : Int64) (t_below : Int64) (a1_rows : Int32) (a1_columns : Int32) (a1_paints : Int32) (a1_apart : Int32) (a1_paintsOf0 : Int32) (a1_paintsOf1 : Int32) (a1_old : Int32) (a1_shut : Int32) (a1_all : Int32) (a1_firstColumn : Int32) (a1_fitsAtFirst : Int32) (a1_paintingsOf0 : Int32) (a1_paintingsOf1 : Int32) (a1_ruledOut_ : Nat → Int32) (p2 : Int32) (p3 : Int32) (p4 : Int32) (p5 : Int32) (r : Int32) (h : fX1_draw F a1_fitsAtFirst a1_paintingsOf0 a1_paintingsOf1 a1_ruledOut_ p2 p3 p4 p5 = some r) : MM l yX1_draw (jW yX1_draw cX1_draw 14 (some .int)) ({ frames := 2, cells := 0, slots := 0, locals := 46 }) D [.ref h_t, .ref h_a1, .int p2, .int p3, .int p4, .int p5] [(h_t, .inr (1, [.long t_above, .long t_below])), (h_a1, .inr (2, [.int a1_rows, .int a1_columns, .int a1_paints, .int a1_apart, .int a1_paintsOf0, .int a1_paintsOf1, .int a1_old, .int a1_shut, .int a1_all, .int a1_firstColumn, .int a1_fitsAtFirst, .int a1_paintingsOf0, .int a1_paintingsOf1, .ref h_a1_ruledOut])), (h_a1_ruledOut, jI D 27 a1_ruledOut_)] (some (.int r)) (oX1_draw D h_t h_a1 h_a1_ruledOut t_above t_below a1_rows a1_columns a1_paints a1_apart a1_paintsOf0 a1_paintsOf1 a1_old a1_shut a1_all a1_firstColumn a1_fitsAtFirst a1_paintingsOf0 a1_paintingsOf1 a1_ruledOut_ r) := by
  refine mn_of hpX1_draw (Nat.le_of_ble_eq_true rfl) ?_
  intro X hXl C E0 hN
  subst hXl
  replace C : JC D X 14 RX1 cX1_draw ({ frames := 2, cells := 0, slots := 0, locals := 46 }) := C
  have E : JE D X 0 0 (some .int) (fun _ : Unit => (some (.int r))) (fun _ : Unit => (oX1_draw D h_t h_a1 h_a1_ruledOut t_above t_below a1_rows a1_columns a1_paints a1_apart a1_paintsOf0 a1_paintsOf1 a1_old a1_shut a1_all a1_firstColumn a1_fitsAtFirst a1_paintingsOf0 a1_paintingsOf1 a1_ruledOut_ r)) := E0 0 0 rfl rfl
  clear E0 hN
  show JJ D X 14 0 0 0 [(0, .ref h_t), (1, .ref h_a1), (2, .int p2), (3, .int p3), (4, .int p4), (5, .int p5)] [] [(h_t, .inr (1, [.long t_above, .long t_below])), (h_a1, .inr (2, [.int a1_rows, .int a1_columns, .int a1_paints, .int a1_apart, .int a1_paintsOf0, .int a1_paintsOf1, .int a1_old, .int a1_shut, .int a1_all, .int a1_firstColumn, .int a1_fitsAtFirst, .int a1_paintingsOf0, .int a1_paintingsOf1, .ref h_a1_ruledOut])), (h_a1_ruledOut, jI D 27 a1_ruledOut_)]
  unfold fX1_draw at h
  have L113 : ∀ (x10 : Int32) (x11 : Int32), fX1_draw_113 F a1_fitsAtFirst a1_paintingsOf0 a1_paintingsOf1 a1_ruledOut_ p2 p3 p4 p5  x10 x11 = some r → JJ D X 14 0 0 113 [(5, .int p5), (7, .int x10), (8, .int x11)] [] [(h_t, .inr (1, [.long t_above, .long t_below])), (h_a1, .inr (2, [.int a1_rows, .int a1_columns, .int a1_paints, .int a1_apart, .int a1_paintsOf0, .int a1_paintsOf1, .int a1_old, .int a1_shut, .int a1_all, .int a1_firstColumn, .int a1_fitsAtFirst, .int a1_paintingsOf0, .int a1_paintingsOf1, .ref h_a1_ruledOut])), (h_a1_ruledOut, jI D 27 a1_ruledOut_)] := by
    intro x10 x11 h
    unfold fX1_draw_113 at h
    refine j_iload C dX1_draw_113 0 rfl ?_
    refine j_if_ne C (tgt := 123) dX1_draw_115 (by decide) h (fun c27 h => ?_) (fun c27 h => ?_)
    · refine j_iload C dX1_draw_118 2 rfl ?_
      refine j_goto C dX1_draw_120 (tgt := 125) (by decide) ?_
      exact j_iretR C (r := r) (rtf := fun r => (some (.int r))) (wff := fun r => (oX1_draw D h_t h_a1 h_a1_ruledOut t_above t_below a1_rows a1_columns a1_paints a1_apart a1_paintsOf0 a1_paintsOf1 a1_old a1_shut a1_all a1_firstColumn a1_fitsAtFirst a1_paintingsOf0 a1_paintingsOf1 a1_ruledOut_ r)) E h rfl rfl dX1_draw_125
    · refine j_iload C dX1_draw_123 1 rfl ?_
      exact j_iretR C (r := r) (rtf := fun r => (some (.int r))) (wff := fun r => (oX1_draw D h_t h_a1 h_a1_ruledOut t_above t_below a1_rows a1_columns a1_paints a1_apart a1_paintsOf0 a1_paintsOf1 a1_old a1_shut a1_all a1_firstColumn a1_fitsAtFirst a1_paintingsOf0 a1_paintingsOf1 a1_ruledOut_ r)) E h rfl rfl dX1_draw_125
  have L19 : ∀ (x5 : Int32) (x6 : Int32) (x7 : Int32) (x8 : Int32), lX1_draw_19 F a1_fitsAtFirst a1_paintingsOf0 a1_paintingsOf1 a1_ruledOut_ p2 p3 p4 p5  F x5 x6 x7 x8 = some r → JJ D X 14 0 0 19 [(1, .ref h_a1), (4, .int p4), (5, .int p5), (6, .int x5), (7, .int x6), (8, .int x7), (9, .int x8)] [] [(h_t, .inr (1, [.long t_above, .long t_below])), (h_a1, .inr (2, [.int a1_rows, .int a1_columns, .int a1_paints, .int a1_apart, .int a1_paintsOf0, .int a1_paintsOf1, .int a1_old, .int a1_shut, .int a1_all, .int a1_firstColumn, .int a1_fitsAtFirst, .int a1_paintingsOf0, .int a1_paintingsOf1, .ref h_a1_ruledOut])), (h_a1_ruledOut, jI D 27 a1_ruledOut_)] := by
    intro x5 x6 x7 x8 h
    refine jl_ind4 (fun x5 x6 x7 x8 => JJ D X 14 0 0 19 [(1, .ref h_a1), (4, .int p4), (5, .int p5), (6, .int x5), (7, .int x6), (8, .int x7), (9, .int x8)] [] [(h_t, .inr (1, [.long t_above, .long t_below])), (h_a1, .inr (2, [.int a1_rows, .int a1_columns, .int a1_paints, .int a1_apart, .int a1_paintsOf0, .int a1_paintsOf1, .int a1_old, .int a1_shut, .int a1_all, .int a1_firstColumn, .int a1_fitsAtFirst, .int a1_paintingsOf0, .int a1_paintingsOf1, .ref h_a1_ruledOut])), (h_a1_ruledOut, jI D 27 a1_ruledOut_)]) ?_ F x5 x6 x7 x8 h
    clear h x5 x6 x7 x8
    intro k19 i19 x5 x6 x7 x8 h
    replace i19 : ∀ (x5 : Int32) (x6 : Int32) (x7 : Int32) (x8 : Int32), k19 x5 x6 x7 x8 = some r → JJ D X 14 0 0 19 [(1, .ref h_a1), (4, .int p4), (5, .int p5), (6, .int x5), (7, .int x6), (8, .int x7), (9, .int x8)] [] [(h_t, .inr (1, [.long t_above, .long t_below])), (h_a1, .inr (2, [.int a1_rows, .int a1_columns, .int a1_paints, .int a1_apart, .int a1_paintsOf0, .int a1_paintsOf1, .int a1_old, .int a1_shut, .int a1_all, .int a1_firstColumn, .int a1_fitsAtFirst, .int a1_paintingsOf0, .int a1_paintingsOf1, .ref h_a1_ruledOut])), (h_a1_ruledOut, jI D 27 a1_ruledOut_)] := i19
    show JJ D X 14 0 0 19 [(1, .ref h_a1), (4, .int p4), (5, .int p5), (6, .int x5), (7, .int x6), (8, .int x7), (9, .int x8)] [] [(h_t, .inr (1, [.long t_above, .long t_below])), (h_a1, .inr (2, [.int a1_rows, .int a1_columns, .int a1_paints, .int a1_apart, .int a1_paintsOf0, .int a1_paintsOf1, .int a1_old, .int a1_shut, .int a1_all, .int a1_firstColumn, .int a1_fitsAtFirst, .int a1_paintingsOf0, .int a1_paintingsOf1, .ref h_a1_ruledOut])), (h_a1_ruledOut, jI D 27 a1_ruledOut_)]
    unfold bX1_draw_19 at h
    refine j_iload C dX1_draw_19 6 rfl ?_
    refine j_bipush C dX1_draw_21 (v := (9 : Int32)) (by decide) ?_
    refine j_icmp_ge C (tgt := 113) dX1_draw_23 (by decide) h (fun c9 h => ?_) (fun c9 h => ?_)
    · refine j_sub (lv' := [(5, .int p5), (7, .int x6), (8, .int x7)]) [2, 4, 5] rfl ?_
      exact L113 x6 x7 h
    · refine j_iload C dX1_draw_26 3 rfl ?_
      refine j_aload_n C dX1_draw_28 rfl 0 rfl ?_
      refine j_iload C dX1_draw_29 5 rfl ?_
      obtain ⟨r12, q13, h⟩ := jl_bind h
      refine j_cV1 C (mX3_paintingsOf (jlaunch X) D h_a1 h_a1_ruledOut a1_rows a1_columns a1_paints a1_apart a1_paintsOf0 a1_paintsOf1 a1_old a1_shut a1_all a1_firstColumn a1_fitsAtFirst a1_paintingsOf0 a1_paintingsOf1 x7 r12 q13) bmX1_28 biX3_paintingsOf bsX3_paintingsOf bzX3 bcX3_paintingsOf rfl hX3_paintingsOf (rest := [.int x5]) rfl (jroom_of rfl) 0 (ci := 2) rfl rfl rfl [1] [0, 2] [0, 2, 1] (wr := [(h_t, .inr (1, [.long t_above, .long t_below])), (h_a1_ruledOut, jI D 27 a1_ruledOut_)]) (ws2 := [(h_t, .inr (1, [.long t_above, .long t_below])), (h_a1, .inr (2, [.int a1_rows, .int a1_columns, .int a1_paints, .int a1_apart, .int a1_paintsOf0, .int a1_paintsOf1, .int a1_old, .int a1_shut, .int a1_all, .int a1_firstColumn, .int a1_fitsAtFirst, .int a1_paintingsOf0, .int a1_paintingsOf1, .ref h_a1_ruledOut])), (h_a1_ruledOut, jI D 27 a1_ruledOut_)]) rfl rfl rfl rfl rfl (Nat.le_of_ble_eq_true rfl) dX1_draw_31 ?_
      refine j_iand C dX1_draw_34 ?_
      refine j_istore C dX1_draw_35 (lv' := fun v14 => [(10, .int v14), (1, .ref h_a1), (4, .int p4), (5, .int p5), (6, .int x5), (7, .int x6), (8, .int x7), (9, .int x8)]) (by decide) (fun _ => rfl) h (fun v14 h => ?_)
      refine j_iload C dX1_draw_37 0 rfl ?_
      obtain ⟨r15, q16, h⟩ := jl_bind h
      refine j_cS1 C (mJ6_bitCount_0f7a4 (jlaunch X) D v14 r15 q16) bmX1_42 btJ6_bitCount_0f7a4 bzJ6 bcJ6_bitCount_0f7a4 hJ6_bitCount_0f7a4 (rest := []) rfl (jroom_of rfl) [] [0, 1, 2] [0, 1, 2] (wr := [(h_t, .inr (1, [.long t_above, .long t_below])), (h_a1, .inr (2, [.int a1_rows, .int a1_columns, .int a1_paints, .int a1_apart, .int a1_paintsOf0, .int a1_paintsOf1, .int a1_old, .int a1_shut, .int a1_all, .int a1_firstColumn, .int a1_fitsAtFirst, .int a1_paintingsOf0, .int a1_paintingsOf1, .ref h_a1_ruledOut])), (h_a1_ruledOut, jI D 27 a1_ruledOut_)]) (ws2 := [(h_t, .inr (1, [.long t_above, .long t_below])), (h_a1, .inr (2, [.int a1_rows, .int a1_columns, .int a1_paints, .int a1_apart, .int a1_paintsOf0, .int a1_paintsOf1, .int a1_old, .int a1_shut, .int a1_all, .int a1_firstColumn, .int a1_fitsAtFirst, .int a1_paintingsOf0, .int a1_paintingsOf1, .ref h_a1_ruledOut])), (h_a1_ruledOut, jI D 27 a1_ruledOut_)]) rfl rfl rfl rfl rfl (Nat.le_of_ble_eq_true rfl) dX1_draw_39 ?_
      refine j_istoreC C dX1_draw_42 (lv' := [(11, .int r15), (10, .int v14), (1, .ref h_a1), (4, .int p4), (5, .int p5), (6, .int x5), (7, .int x6), (8, .int x7), (9, .int x8)]) (by decide) rfl ?_
      refine j_iload C dX1_draw_44 0 rfl ?_
      refine j_if_ne C (tgt := 52) dX1_draw_46 (by decide) h (fun c17 h => ?_) (fun c17 h => ?_)
      · refine j_goto C dX1_draw_49 (tgt := 113) (by decide) ?_
        refine j_sub (lv' := [(5, .int p5), (7, .int x6), (8, .int x7)]) [4, 6, 7] rfl ?_
        exact L113 x6 x7 h
      · refine j_ldc2_w C bKX1_51 dX1_draw_52 ?_
        refine j_iload C dX1_draw_55 3 rfl ?_
        refine j_i2l C dX1_draw_57 ?_
        refine j_lmul C dX1_draw_58 ?_
        refine j_ldc2_w C bKX1_53 dX1_draw_59 ?_
        refine j_iload C dX1_draw_62 8 rfl ?_
        refine j_i2l C dX1_draw_64 ?_
        refine j_lmul C dX1_draw_65 ?_
        refine j_ladd C dX1_draw_66 ?_
        refine j_lconst C dX1_draw_67 (v := (1 : Int64)) (by decide) ?_
        refine j_ladd C dX1_draw_68 ?_
        refine j_lstore C dX1_draw_69 (lv' := fun v18 => [(12, .long v18), (11, .int r15), (10, .int v14), (1, .ref h_a1), (4, .int p4), (5, .int p5), (6, .int x5), (7, .int x6), (8, .int x7), (9, .int x8)]) (by decide) (fun _ => rfl) h (fun v18 h => ?_)
        refine j_aload_n C dX1_draw_71 rfl 3 rfl ?_
        refine j_iload C dX1_draw_72 6 rfl ?_
        refine j_iload C dX1_draw_74 2 rfl ?_
        refine j_lload C dX1_draw_76 0 rfl ?_
        refine j_lload C dX1_draw_78 0 rfl ?_
        refine j_lmul C dX1_draw_80 ?_
        refine j_ldc2_w C bKX1_55 dX1_draw_81 ?_
        refine j_lrem C dX1_draw_84 (by decide) ?_
        refine j_iload C dX1_draw_85 1 rfl ?_
        refine j_i2l C dX1_draw_87 ?_
        refine jl_grd h (fun b19 h => ?_)
        refine j_lrem C dX1_draw_88 b19 ?_
        refine j_l2i C dX1_draw_89 ?_
        obtain ⟨r20, q21, h⟩ := jl_bind h
        refine j_cS1 C (mX1_picked (jlaunch X) D F v14 ((((v18 * v18) - (v18 * v18) / ((65521 : Int64)) * ((65521 : Int64))) - ((v18 * v18) - (v18 * v18) / ((65521 : Int64)) * ((65521 : Int64))) / r15.toInt64 * r15.toInt64).toInt32) r20 q21) bmX1_57 btX1_picked bzX1 bcX1_picked hX1_picked (rest := [.int x5, .ref h_a1]) rfl (jroom_of rfl) [] [0, 1, 2] [0, 1, 2] (wr := [(h_t, .inr (1, [.long t_above, .long t_below])), (h_a1, .inr (2, [.int a1_rows, .int a1_columns, .int a1_paints, .int a1_apart, .int a1_paintsOf0, .int a1_paintsOf1, .int a1_old, .int a1_shut, .int a1_all, .int a1_firstColumn, .int a1_fitsAtFirst, .int a1_paintingsOf0, .int a1_paintingsOf1, .ref h_a1_ruledOut])), (h_a1_ruledOut, jI D 27 a1_ruledOut_)]) (ws2 := [(h_t, .inr (1, [.long t_above, .long t_below])), (h_a1, .inr (2, [.int a1_rows, .int a1_columns, .int a1_paints, .int a1_apart, .int a1_paintsOf0, .int a1_paintsOf1, .int a1_old, .int a1_shut, .int a1_all, .int a1_firstColumn, .int a1_fitsAtFirst, .int a1_paintingsOf0, .int a1_paintingsOf1, .ref h_a1_ruledOut])), (h_a1_ruledOut, jI D 27 a1_ruledOut_)]) rfl rfl rfl rfl rfl (Nat.le_of_ble_eq_true rfl) dX1_draw_90 ?_
        obtain ⟨r22, q23, h⟩ := jl_bind h
        refine j_cV1 C (mX3_fittingAfter (jlaunch X) D h_a1 h_a1_ruledOut a1_rows a1_columns a1_paints a1_apart a1_paintsOf0 a1_paintsOf1 a1_old a1_shut a1_all a1_firstColumn a1_fitsAtFirst a1_paintingsOf0 a1_paintingsOf1 a1_ruledOut_ x5 r20 r22 q23) bmX1_38 biX3_fittingAfter bsX3_fittingAfter bzX3 bcX3_fittingAfter rfl hX3_fittingAfter (rest := []) rfl (jroom_of rfl) 0 (ci := 2) rfl rfl rfl [1, 2] [0] [0, 1, 2] (wr := [(h_t, .inr (1, [.long t_above, .long t_below]))]) (ws2 := [(h_t, .inr (1, [.long t_above, .long t_below])), (h_a1, .inr (2, [.int a1_rows, .int a1_columns, .int a1_paints, .int a1_apart, .int a1_paintsOf0, .int a1_paintsOf1, .int a1_old, .int a1_shut, .int a1_all, .int a1_firstColumn, .int a1_fitsAtFirst, .int a1_paintingsOf0, .int a1_paintingsOf1, .ref h_a1_ruledOut])), (h_a1_ruledOut, jI D 27 a1_ruledOut_)]) rfl rfl rfl rfl rfl (Nat.le_of_ble_eq_true rfl) dX1_draw_93 ?_
        refine j_istoreC C dX1_draw_96 (lv' := [(6, .int r22), (12, .long v18), (11, .int r15), (10, .int v14), (1, .ref h_a1), (4, .int p4), (5, .int p5), (7, .int x6), (8, .int x7), (9, .int x8)]) (by decide) rfl ?_
        refine j_iinc C dX1_draw_98 7 rfl (lv' := fun v24 => [(7, .int v24), (6, .int r22), (12, .long v18), (11, .int r15), (10, .int v14), (1, .ref h_a1), (4, .int p4), (5, .int p5), (8, .int x7), (9, .int x8)]) (by decide) (fun _ => rfl) h (fun v24 h => ?_)
        refine j_iconst C dX1_draw_101 (v := (1 : Int32)) (by decide) ?_
        refine j_iload C dX1_draw_102 8 rfl ?_
        refine j_isub C dX1_draw_104 ?_
        refine j_istore C dX1_draw_105 (lv' := fun v25 => [(8, .int v25), (7, .int v24), (6, .int r22), (12, .long v18), (11, .int r15), (10, .int v14), (1, .ref h_a1), (4, .int p4), (5, .int p5), (9, .int x8)]) (by decide) (fun _ => rfl) h (fun v25 h => ?_)
        refine j_iinc C dX1_draw_107 9 rfl (lv' := fun v26 => [(9, .int v26), (8, .int v25), (7, .int v24), (6, .int r22), (12, .long v18), (11, .int r15), (10, .int v14), (1, .ref h_a1), (4, .int p4), (5, .int p5)]) (by decide) (fun _ => rfl) h (fun v26 h => ?_)
        refine j_goto C dX1_draw_110 (tgt := 19) (by decide) ?_
        refine j_sub (lv' := [(1, .ref h_a1), (4, .int p4), (5, .int p5), (6, .int r22), (7, .int v24), (8, .int v25), (9, .int v26)]) [7, 8, 9, 3, 2, 1, 0] rfl ?_
        exact i19 r22 v24 v25 v26 h
  refine j_aload_n C dX1_draw_0 rfl 1 rfl ?_
  refine j_iload_n C dX1_draw_1 rfl 2 rfl ?_
  obtain ⟨r1, q2, h⟩ := jl_bind h
  refine j_cV1 C (mX3_fitting (jlaunch X) D F h_a1 h_a1_ruledOut a1_rows a1_columns a1_paints a1_apart a1_paintsOf0 a1_paintsOf1 a1_old a1_shut a1_all a1_firstColumn a1_fitsAtFirst a1_paintingsOf0 a1_paintingsOf1 a1_ruledOut_ p2 r1 q2) bmX1_9 biX3_fitting bsX3_fitting bzX3 bcX3_fitting rfl hX3_fitting (rest := []) rfl (jroom_of rfl) 0 (ci := 2) rfl rfl rfl [1, 2] [0] [0, 1, 2] (wr := [(h_t, .inr (1, [.long t_above, .long t_below]))]) (ws2 := [(h_t, .inr (1, [.long t_above, .long t_below])), (h_a1, .inr (2, [.int a1_rows, .int a1_columns, .int a1_paints, .int a1_apart, .int a1_paintsOf0, .int a1_paintsOf1, .int a1_old, .int a1_shut, .int a1_all, .int a1_firstColumn, .int a1_fitsAtFirst, .int a1_paintingsOf0, .int a1_paintingsOf1, .ref h_a1_ruledOut])), (h_a1_ruledOut, jI D 27 a1_ruledOut_)]) rfl rfl rfl rfl rfl (Nat.le_of_ble_eq_true rfl) dX1_draw_2 ?_
  refine j_istoreC C dX1_draw_5 (lv' := [(6, .int r1), (0, .ref h_t), (1, .ref h_a1), (2, .int p2), (3, .int p3), (4, .int p4), (5, .int p5)]) (by decide) rfl ?_
  refine j_iload_n C dX1_draw_7 rfl 3 rfl ?_
  obtain ⟨r3, q4, h⟩ := jl_bind h
  refine j_cS1 C (mJ6_bitCount_0f7a4 (jlaunch X) D p2 r3 q4) bmX1_42 btJ6_bitCount_0f7a4 bzJ6 bcJ6_bitCount_0f7a4 hJ6_bitCount_0f7a4 (rest := []) rfl (jroom_of rfl) [] [0, 1, 2] [0, 1, 2] (wr := [(h_t, .inr (1, [.long t_above, .long t_below])), (h_a1, .inr (2, [.int a1_rows, .int a1_columns, .int a1_paints, .int a1_apart, .int a1_paintsOf0, .int a1_paintsOf1, .int a1_old, .int a1_shut, .int a1_all, .int a1_firstColumn, .int a1_fitsAtFirst, .int a1_paintingsOf0, .int a1_paintingsOf1, .ref h_a1_ruledOut])), (h_a1_ruledOut, jI D 27 a1_ruledOut_)]) (ws2 := [(h_t, .inr (1, [.long t_above, .long t_below])), (h_a1, .inr (2, [.int a1_rows, .int a1_columns, .int a1_paints, .int a1_apart, .int a1_paintsOf0, .int a1_paintsOf1, .int a1_old, .int a1_shut, .int a1_all, .int a1_firstColumn, .int a1_fitsAtFirst, .int a1_paintingsOf0, .int a1_paintingsOf1, .ref h_a1_ruledOut])), (h_a1_ruledOut, jI D 27 a1_ruledOut_)]) rfl rfl rfl rfl rfl (Nat.le_of_ble_eq_true rfl) dX1_draw_8 ?_
  refine j_istoreC C dX1_draw_11 (lv' := [(7, .int r3), (6, .int r1), (0, .ref h_t), (1, .ref h_a1), (2, .int p2), (3, .int p3), (4, .int p4), (5, .int p5)]) (by decide) rfl ?_
  refine j_iload_n C dX1_draw_13 rfl 5 rfl ?_
  refine j_istoreC C dX1_draw_14 (lv' := [(8, .int p3), (7, .int r3), (6, .int r1), (0, .ref h_t), (1, .ref h_a1), (2, .int p2), (3, .int p3), (4, .int p4), (5, .int p5)]) (by decide) rfl ?_
  refine j_iconst C dX1_draw_16 (v := (0 : Int32)) (by decide) ?_
  refine j_istoreC C dX1_draw_17 (lv' := [(9, .int ((0 : Int32))), (8, .int p3), (7, .int r3), (6, .int r1), (0, .ref h_t), (1, .ref h_a1), (2, .int p2), (3, .int p3), (4, .int p4), (5, .int p5)]) (by decide) rfl ?_
  refine j_sub (lv' := [(1, .ref h_a1), (4, .int p4), (5, .int p5), (6, .int r1), (7, .int r3), (8, .int p3), (9, .int ((0 : Int32)))]) [5, 8, 9, 3, 2, 1, 0] rfl ?_
  exact L19 r1 r3 p3 ((0 : Int32)) h
