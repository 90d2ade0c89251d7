theorem dX4_init_0 : decode cX4_init 0 = .ok (.aload_n 0, 1) := by decide +kernel
theorem dX4_init_1 : decode cX4_init 1 = .ok (.invokespecial 3, 3) := by decide +kernel
theorem dX4_init_4 : decode cX4_init 4 = .ok (.return_, 1) := by decide +kernel
def fX4_init  : Option (Int32 × Int32 × Int32 × Int32 × Int32) :=
(some ((0 : Int32), (0 : Int32), (0 : Int32), (0 : Int32), (0 : Int32)))
set_option maxHeartbeats 40000000 in
set_option maxRecDepth 100000 in
theorem mX4_init (l : Launch) (D : jv_D) (h_t : Nat) (r : Int32 × Int32 × Int32 × Int32 × Int32) (h : fX4_init  = some r) : MN l yX4_init (jW yX4_init cX4_init 1 none) ({ frames := 1, cells := 0, slots := 0, locals := 64 }) D [.ref h_t] [(h_t, .inr (3, [.int ((0 : Int32)), .int ((0 : Int32)), .int ((0 : Int32)), .int ((0 : Int32)), .int ((0 : Int32))]))] 0 0 (fun _ : Unit => none) (fun u : Unit => [(h_t, .inr (3, [.int r.1, .int r.2.1, .int r.2.2.1, .int r.2.2.2.1, .int r.2.2.2.2]))]) := by
  refine mn_of hpX4_init (Nat.le_of_ble_eq_true rfl) ?_
  intro X hXl C E hN
  subst hXl
  replace C : JC D X 1 RX4 cX4_init ({ frames := 1, cells := 0, slots := 0, locals := 64 }) := C
  show JJ D X 1 0 0 0 [(0, .ref h_t)] [] [(h_t, .inr (3, [.int ((0 : Int32)), .int ((0 : Int32)), .int ((0 : Int32)), .int ((0 : Int32)), .int ((0 : Int32))]))]
  unfold fX4_init at h
  refine j_aload_n C dX4_init_0 rfl 0 rfl ?_
  refine j_objInit C bmX4_3 boi boc dX4_init_1 ⟨Nat.le_of_ble_eq_true rfl, Nat.le_of_ble_eq_true rfl⟩ ?_
  obtain rfl := jl_some h
  exact j_vret C (E _ _ rfl rfl) () rfl rfl dX4_init_4
theorem dX4_isFigure_0 : decode cX4_isFigure 0 = .ok (.iload_n 0, 1) := by decide +kernel
theorem dX4_isFigure_1 : decode cX4_isFigure 1 = .ok (.bipush 48, 2) := by decide +kernel
theorem dX4_isFigure_3 : decode cX4_isFigure 3 = .ok (.if_icmp .lt 13, 3) := by decide +kernel
theorem dX4_isFigure_6 : decode cX4_isFigure 6 = .ok (.iload_n 0, 1) := by decide +kernel
theorem dX4_isFigure_7 : decode cX4_isFigure 7 = .ok (.bipush 57, 2) := by decide +kernel
theorem dX4_isFigure_9 : decode cX4_isFigure 9 = .ok (.if_icmp .gt 7, 3) := by decide +kernel
theorem dX4_isFigure_12 : decode cX4_isFigure 12 = .ok (.iconst 1, 1) := by decide +kernel
theorem dX4_isFigure_13 : decode cX4_isFigure 13 = .ok (.goto 4, 3) := by decide +kernel
theorem dX4_isFigure_16 : decode cX4_isFigure 16 = .ok (.iconst 0, 1) := by decide +kernel
theorem dX4_isFigure_17 : decode cX4_isFigure 17 = .ok (.ireturn, 1) := by decide +kernel
def fX4_isFigure (p0 : Int32) : Option (Int32) :=
(if p0 < ((48 : Int32)) then
(some ((0 : Int32)))
else
(if ((57 : Int32)) < p0 then
(some ((0 : Int32)))
else
(some ((1 : Int32)))))
def oX4_isFigure (D : jv_D)  (r : Int32) : va_W := []
set_option maxHeartbeats 40000000 in
set_option maxRecDepth 100000 in
theorem mX4_isFigure (l : Launch) (D : jv_D) (p0 : Int32) (r : Int32) (h : fX4_isFigure p0 = some r) : MM l yX4_isFigure (jW yX4_isFigure cX4_isFigure 1 (some .boolean)) ({ frames := 0, cells := 0, slots := 0, locals := 0 }) D [.int p0] [] (some (.int r)) (oX4_isFigure D  r) := by
  refine mn_of hpX4_isFigure (Nat.le_of_ble_eq_true rfl) ?_
  intro X hXl C E0 hN
  subst hXl
  replace C : JC D X 1 RX4 cX4_isFigure ({ frames := 0, cells := 0, slots := 0, locals := 0 }) := C
  have E : JE D X 0 0 (some .boolean) (fun _ : Unit => (some (.int r))) (fun _ : Unit => (oX4_isFigure D  r)) := E0 0 0 rfl rfl
  clear E0 hN
  show JJ D X 1 0 0 0 [(0, .int p0)] [] []
  unfold fX4_isFigure at h
  refine j_iload_n C dX4_isFigure_0 rfl 0 rfl ?_
  refine j_bipush C dX4_isFigure_1 (v := (48 : Int32)) (by decide) ?_
  refine j_icmp_lt C (tgt := 16) dX4_isFigure_3 (by decide) h (fun c1 h => ?_) (fun c1 h => ?_)
  · refine j_iconst C dX4_isFigure_16 (v := (0 : Int32)) (by decide) ?_
    exact j_zretR C (r := r) (rtf := fun r => (some (.int r))) (wff := fun r => (oX4_isFigure D  r)) E rfl h rfl rfl dX4_isFigure_17
  · refine j_iload_n C dX4_isFigure_6 rfl 0 rfl ?_
    refine j_bipush C dX4_isFigure_7 (v := (57 : Int32)) (by decide) ?_
    refine j_icmp_gt C (tgt := 16) dX4_isFigure_9 (by decide) h (fun c2 h => ?_) (fun c2 h => ?_)
    · refine j_iconst C dX4_isFigure_16 (v := (0 : Int32)) (by decide) ?_
      exact j_zretR C (r := r) (rtf := fun r => (some (.int r))) (wff := fun r => (oX4_isFigure D  r)) E rfl h rfl rfl dX4_isFigure_17
    · refine j_iconst C dX4_isFigure_12 (v := (1 : Int32)) (by decide) ?_
      refine j_goto C dX4_isFigure_13 (tgt := 17) (by decide) ?_
      exact j_zretR C (r := r) (rtf := fun r => (some (.int r))) (wff := fun r => (oX4_isFigure D  r)) E rfl h rfl rfl dX4_isFigure_17
theorem dX4_number_0 : decode cX4_number 0 = .ok (.iconst 0, 1) := by decide +kernel
theorem dX4_number_1 : decode cX4_number 1 = .ok (.istore_n 3, 1) := by decide +kernel
theorem dX4_number_2 : decode cX4_number 2 = .ok (.iconst 0, 1) := by decide +kernel
theorem dX4_number_3 : decode cX4_number 3 = .ok (.istore 4, 2) := by decide +kernel
theorem dX4_number_5 : decode cX4_number 5 = .ok (.iload 4, 2) := by decide +kernel
theorem dX4_number_7 : decode cX4_number 7 = .ok (.iconst 2, 1) := by decide +kernel
theorem dX4_number_8 : decode cX4_number 8 = .ok (.if_icmp .ge 50, 3) := by decide +kernel
theorem dX4_number_11 : decode cX4_number 11 = .ok (.aload_n 1, 1) := by decide +kernel
theorem dX4_number_12 : decode cX4_number 12 = .ok (.aload_n 0, 1) := by decide +kernel
theorem dX4_number_13 : decode cX4_number 13 = .ok (.getfield 14, 3) := by decide +kernel
theorem dX4_number_16 : decode cX4_number 16 = .ok (.invokevirtual 36, 3) := by decide +kernel
theorem dX4_number_19 : decode cX4_number 19 = .ok (.invokestatic 53, 3) := by decide +kernel
theorem dX4_number_22 : decode cX4_number 22 = .ok (.ifCond .eq 36, 3) := by decide +kernel
theorem dX4_number_25 : decode cX4_number 25 = .ok (.bipush 10, 2) := by decide +kernel
theorem dX4_number_27 : decode cX4_number 27 = .ok (.iload_n 3, 1) := by decide +kernel
theorem dX4_number_28 : decode cX4_number 28 = .ok (.imul, 1) := by decide +kernel
theorem dX4_number_29 : decode cX4_number 29 = .ok (.aload_n 1, 1) := by decide +kernel
theorem dX4_number_30 : decode cX4_number 30 = .ok (.aload_n 0, 1) := by decide +kernel
theorem dX4_number_31 : decode cX4_number 31 = .ok (.getfield 14, 3) := by decide +kernel
theorem dX4_number_34 : decode cX4_number 34 = .ok (.invokevirtual 36, 3) := by decide +kernel
theorem dX4_number_37 : decode cX4_number 37 = .ok (.iadd, 1) := by decide +kernel
theorem dX4_number_38 : decode cX4_number 38 = .ok (.bipush 48, 2) := by decide +kernel
theorem dX4_number_40 : decode cX4_number 40 = .ok (.isub, 1) := by decide +kernel
theorem dX4_number_41 : decode cX4_number 41 = .ok (.istore_n 3, 1) := by decide +kernel
theorem dX4_number_42 : decode cX4_number 42 = .ok (.iinc 4 1, 3) := by decide +kernel
theorem dX4_number_45 : decode cX4_number 45 = .ok (.aload_n 0, 1) := by decide +kernel
theorem dX4_number_46 : decode cX4_number 46 = .ok (.dup, 1) := by decide +kernel
theorem dX4_number_47 : decode cX4_number 47 = .ok (.getfield 14, 3) := by decide +kernel
theorem dX4_number_50 : decode cX4_number 50 = .ok (.iconst 1, 1) := by decide +kernel
theorem dX4_number_51 : decode cX4_number 51 = .ok (.iadd, 1) := by decide +kernel
theorem dX4_number_52 : decode cX4_number 52 = .ok (.putfield 14, 3) := by decide +kernel
theorem dX4_number_55 : decode cX4_number 55 = .ok (.goto (-50), 3) := by decide +kernel
theorem dX4_number_58 : decode cX4_number 58 = .ok (.iload 4, 2) := by decide +kernel
theorem dX4_number_60 : decode cX4_number 60 = .ok (.ifCond .eq 15, 3) := by decide +kernel
theorem dX4_number_63 : decode cX4_number 63 = .ok (.aload_n 1, 1) := by decide +kernel
theorem dX4_number_64 : decode cX4_number 64 = .ok (.aload_n 0, 1) := by decide +kernel
theorem dX4_number_65 : decode cX4_number 65 = .ok (.getfield 14, 3) := by decide +kernel
theorem dX4_number_68 : decode cX4_number 68 = .ok (.invokevirtual 36, 3) := by decide +kernel
theorem dX4_number_71 : decode cX4_number 71 = .ok (.iload_n 2, 1) := by decide +kernel
theorem dX4_number_72 : decode cX4_number 72 = .ok (.if_icmp .eq 5, 3) := by decide +kernel
theorem dX4_number_75 : decode cX4_number 75 = .ok (.iconst (-1), 1) := by decide +kernel
theorem dX4_number_76 : decode cX4_number 76 = .ok (.ireturn, 1) := by decide +kernel
theorem dX4_number_77 : decode cX4_number 77 = .ok (.aload_n 0, 1) := by decide +kernel
theorem dX4_number_78 : decode cX4_number 78 = .ok (.dup, 1) := by decide +kernel
theorem dX4_number_79 : decode cX4_number 79 = .ok (.getfield 14, 3) := by decide +kernel
theorem dX4_number_82 : decode cX4_number 82 = .ok (.iconst 1, 1) := by decide +kernel
theorem dX4_number_83 : decode cX4_number 83 = .ok (.iadd, 1) := by decide +kernel
theorem dX4_number_84 : decode cX4_number 84 = .ok (.putfield 14, 3) := by decide +kernel
theorem dX4_number_87 : decode cX4_number 87 = .ok (.iload_n 3, 1) := by decide +kernel
theorem dX4_number_88 : decode cX4_number 88 = .ok (.ireturn, 1) := by decide +kernel
def fX4_number_58 (F : Nat) (a1_length : Int32) (a1_bytes_ : Nat → Int32) (p2 : Int32)  (x5 : Int32) (x6 : Int32) (m_t_at_7 : Int32) : Option (Int32 × Int32) :=
(if x6 = 0 then
(some ((-1 : Int32), m_t_at_7))
else
((fX6_at a1_length a1_bytes_ m_t_at_7).bind fun r19 =>
(if r19 = p2 then
(jl_let (m_t_at_7 + ((1 : Int32))) fun w22 =>
(some (x5, w22)))
else
(some ((-1 : Int32), m_t_at_7)))))
def bX4_number_5 (F : Nat) (a1_length : Int32) (a1_bytes_ : Nat → Int32) (p2 : Int32)  (k5 : Int32 → Int32 → Int32 → Option (Int32 × Int32)) (x1 : Int32) (x2 : Int32) (m_t_at_3 : Int32) : Option (Int32 × Int32) :=
(if ((2 : Int32)) ≤ x2 then
(fX4_number_58 F a1_length a1_bytes_ p2 x1 x2 m_t_at_3)
else
((fX6_at a1_length a1_bytes_ m_t_at_3).bind fun r8 =>
((fX4_isFigure r8).bind fun r10 =>
(if r10 = 0 then
(fX4_number_58 F a1_length a1_bytes_ p2 x1 x2 m_t_at_3)
else
((fX6_at a1_length a1_bytes_ m_t_at_3).bind fun r13 =>
(jl_let (((((10 : Int32)) * x1) + r13) - ((48 : Int32))) fun v15 =>
(jl_let (x2 + Int32.ofInt (1)) fun v16 =>
(jl_let (m_t_at_3 + ((1 : Int32))) fun w17 =>
(k5 v15 v16 w17)))))))))
def lX4_number_5 (F : Nat) (a1_length : Int32) (a1_bytes_ : Nat → Int32) (p2 : Int32)  (F2 : Nat) (x1 : Int32) (x2 : Int32) (m_t_at_3 : Int32) : Option (Int32 × Int32) := jl_loop3 (bX4_number_5 F a1_length a1_bytes_ p2 ) F2 x1 x2 m_t_at_3
def fX4_number (F : Nat) (t_at : Int32) (a1_length : Int32) (a1_bytes_ : Nat → Int32) (p2 : Int32) : Option (Int32 × Int32) :=
(lX4_number_5 F a1_length a1_bytes_ p2 F ((0 : Int32)) ((0 : Int32)) t_at)
def oX4_number (D : jv_D) (h_t : Nat) (h_a1 : Nat) (h_a1_bytes : Nat) (t_first : Int32) (t_second : Int32) (t_stoneTold : Int32) (t_paintTold : Int32) (a1_length : Int32) (a1_bytes_ : Nat → Int32) (r : Int32 × Int32) : va_W := [(h_t, .inr (3, [.int r.2, .int t_first, .int t_second, .int t_stoneTold, .int t_paintTold])), (h_a1, .inr (5, [.ref h_a1_bytes, .int a1_length])), (h_a1_bytes, jB D 200 a1_bytes_)]
set_option maxHeartbeats 40000000 in
set_option maxRecDepth 100000 in
theorem mX4_number (l : Launch) (D : jv_D) (F : Nat) (h_t : Nat) (h_a1 : Nat) (h_a1_bytes : Nat) (t_at : Int32) (t_first : Int32) (t_second : Int32) (t_stoneTold : Int32) (t_paintTold : Int32) (a1_length : Int32) (a1_bytes_ : Nat → Int32) (p2 : Int32) (r : Int32 × Int32) (h : fX4_number F t_at a1_length a1_bytes_ p2 = some r) : MM l yX4_number (jW yX4_number cX4_number 5 (some .int)) ({ frames := 1, cells := 0, slots := 0, locals := 21 }) D [.ref h_t, .ref h_a1, .int p2] [(h_t, .inr (3, [.int t_at, .int t_first, .int t_second, .int t_stoneTold, .int t_paintTold])), (h_a1, .inr (5, [.ref h_a1_bytes, .int a1_length])), (h_a1_bytes, jB D 200 a1_bytes_)] (some (.int r.1)) (oX4_number D h_t h_a1 h_a1_bytes t_first t_second t_stoneTold t_paintTold a1_length a1_bytes_ r) := by
  refine mn_of hpX4_number (Nat.le_of_ble_eq_true rfl) ?_
  intro X hXl C E0 hN
  subst hXl
  replace C : JC D X 5 RX4 cX4_number ({ frames := 1, cells := 0, slots := 0, locals := 21 }) := C
  have E : JE D X 0 0 (some .int) (fun _ : Unit => (some (.int r.1))) (fun _ : Unit => (oX4_number D h_t h_a1 h_a1_bytes t_first t_second t_stoneTold t_paintTold a1_length a1_bytes_ r)) := E0 0 0 rfl rfl
  clear E0 hN
  show JJ D X 5 0 0 0 [(0, .ref h_t), (1, .ref h_a1), (2, .int p2)] [] [(h_t, .inr (3, [.int t_at, .int t_first, .int t_second, .int t_stoneTold, .int t_paintTold])), (h_a1, .inr (5, [.ref h_a1_bytes, .int a1_length])), (h_a1_bytes, jB D 200 a1_bytes_)]
  unfold fX4_number at h
  have L58 : ∀ (x5 : Int32) (x6 : Int32) (m_t_at_7 : Int32), fX4_number_58 F a1_length a1_bytes_ p2  x5 x6 m_t_at_7 = some r → JJ D X 5 0 0 58 [(0, .ref h_t), (1, .ref h_a1), (2, .int p2), (3, .int x5), (4, .int x6)] [] [(h_t, .inr (3, [.int m_t_at_7, .int t_first, .int t_second, .int t_stoneTold, .int t_paintTold])), (h_a1, .inr (5, [.ref h_a1_bytes, .int a1_length])), (h_a1_bytes, jB D 200 a1_bytes_)] := by
    intro x5 x6 m_t_at_7 h
    unfold fX4_number_58 at h
    refine j_iload C dX4_number_58 4 rfl ?_
    refine j_if_eq C (tgt := 75) dX4_number_60 (by decide) h (fun c18 h => ?_) (fun c18 h => ?_)
    · refine j_iconst C dX4_number_75 (v := (-1 : Int32)) (by decide) ?_
      exact j_iretR C (r := r) (rtf := fun r => (some (.int r.1))) (wff := fun r => (oX4_number D h_t h_a1 h_a1_bytes t_first t_second t_stoneTold t_paintTold a1_length a1_bytes_ r)) E h rfl rfl dX4_number_76
    · refine j_aload_n C dX4_number_63 rfl 1 rfl ?_
      refine j_aload_n C dX4_number_64 rfl 0 rfl ?_
      refine j_get C ibX4 (ci := 3) 0 rfl rfl 0 (by decide) bfX4_14 (v := .int m_t_at_7) rfl dX4_number_65 ?_
      obtain ⟨r19, q20, h⟩ := jl_bind h
      refine j_cV1 C (mX6_at (jlaunch X) D h_a1 h_a1_bytes a1_length a1_bytes_ m_t_at_7 r19 q20) bmX4_36 biX6_at bsX6_at bzX6 bcX6_at rfl hX6_at (rest := []) rfl (jroom_of rfl) 0 (ci := 5) rfl rfl rfl [1, 2] [0] [0, 1, 2] (wr := [(h_t, .inr (3, [.int m_t_at_7, .int t_first, .int t_second, .int t_stoneTold, .int t_paintTold]))]) (ws2 := [(h_t, .inr (3, [.int m_t_at_7, .int t_first, .int t_second, .int t_stoneTold, .int t_paintTold])), (h_a1, .inr (5, [.ref h_a1_bytes, .int a1_length])), (h_a1_bytes, jB D 200 a1_bytes_)]) rfl rfl rfl rfl rfl (Nat.le_of_ble_eq_true rfl) dX4_number_68 ?_
      refine j_iload_n C dX4_number_71 rfl 2 rfl ?_
      refine j_icmp_eq C (tgt := 77) dX4_number_72 (by decide) h (fun c21 h => ?_) (fun c21 h => ?_)
      · refine j_aload_n C dX4_number_77 rfl 0 rfl ?_
        refine j_dup C dX4_number_78 rfl ?_
        refine j_get C ibX4 (ci := 3) 0 rfl rfl 0 (by decide) bfX4_14 (v := .int m_t_at_7) rfl dX4_number_79 ?_
        refine j_iconst C dX4_number_82 (v := (1 : Int32)) (by decide) ?_
        refine j_iadd C dX4_number_83 ?_
        refine j_nmi h (fun w22 h => ?_)
        refine j_put C ibX4 tyX4 tyX4_ok nmX4 (ci := 3) 0 rfl rfl 0 (by decide) bfX4_14 rfl rfl rfl (Nat.le_of_ble_eq_true rfl) dX4_number_84 (ws' := [(h_t, .inr (3, [.int w22, .int t_first, .int t_second, .int t_stoneTold, .int t_paintTold])), (h_a1, .inr (5, [.ref h_a1_bytes, .int a1_length])), (h_a1_bytes, jB D 200 a1_bytes_)]) rfl ?_
        refine j_iload_n C dX4_number_87 rfl 3 rfl ?_
        exact j_iretR C (r := r) (rtf := fun r => (some (.int r.1))) (wff := fun r => (oX4_number D h_t h_a1 h_a1_bytes t_first t_second t_stoneTold t_paintTold a1_length a1_bytes_ r)) E h rfl rfl dX4_number_88
      · refine j_iconst C dX4_number_75 (v := (-1 : Int32)) (by decide) ?_
        exact j_iretR C (r := r) (rtf := fun r => (some (.int r.1))) (wff := fun r => (oX4_number D h_t h_a1 h_a1_bytes t_first t_second t_stoneTold t_paintTold a1_length a1_bytes_ r)) E h rfl rfl dX4_number_76
  have L5 : ∀ (x1 : Int32) (x2 : Int32) (m_t_at_3 : Int32), lX4_number_5 F a1_length a1_bytes_ p2  F x1 x2 m_t_at_3 = some r → JJ D X 5 0 0 5 [(0, .ref h_t), (1, .ref h_a1), (2, .int p2), (3, .int x1), (4, .int x2)] [] [(h_t, .inr (3, [.int m_t_at_3, .int t_first, .int t_second, .int t_stoneTold, .int t_paintTold])), (h_a1, .inr (5, [.ref h_a1_bytes, .int a1_length])), (h_a1_bytes, jB D 200 a1_bytes_)] := by
    intro x1 x2 m_t_at_3 h
    refine jl_ind3 (fun x1 x2 m_t_at_3 => JJ D X 5 0 0 5 [(0, .ref h_t), (1, .ref h_a1), (2, .int p2), (3, .int x1), (4, .int x2)] [] [(h_t, .inr (3, [.int m_t_at_3, .int t_first, .int t_second, .int t_stoneTold, .int t_paintTold])), (h_a1, .inr (5, [.ref h_a1_bytes, .int a1_length])), (h_a1_bytes, jB D 200 a1_bytes_)]) ?_ F x1 x2 m_t_at_3 h
    clear h x1 x2 m_t_at_3
    intro k5 i5 x1 x2 m_t_at_3 h
    replace i5 : ∀ (x1 : Int32) (x2 : Int32) (m_t_at_3 : Int32), k5 x1 x2 m_t_at_3 = some r → JJ D X 5 0 0 5 [(0, .ref h_t), (1, .ref h_a1), (2, .int p2), (3, .int x1), (4, .int x2)] [] [(h_t, .inr (3, [.int m_t_at_3, .int t_first, .int t_second, .int t_stoneTold, .int t_paintTold])), (h_a1, .inr (5, [.ref h_a1_bytes, .int a1_length])), (h_a1_bytes, jB D 200 a1_bytes_)] := i5
    show JJ D X 5 0 0 5 [(0, .ref h_t), (1, .ref h_a1), (2, .int p2), (3, .int x1), (4, .int x2)] [] [(h_t, .inr (3, [.int m_t_at_3, .int t_first, .int t_second, .int t_stoneTold, .int t_paintTold])), (h_a1, .inr (5, [.ref h_a1_bytes, .int a1_length])), (h_a1_bytes, jB D 200 a1_bytes_)]
    unfold bX4_number_5 at h
    refine j_iload C dX4_number_5 4 rfl ?_
    refine j_iconst C dX4_number_7 (v := (2 : Int32)) (by decide) ?_
    refine j_icmp_ge C (tgt := 58) dX4_number_8 (by decide) h (fun c4 h => ?_) (fun c4 h => ?_)
    · refine j_sub (lv' := [(0, .ref h_t), (1, .ref h_a1), (2, .int p2), (3, .int x1), (4, .int x2)]) [0, 1, 2, 3, 4] rfl ?_
      exact L58 x1 x2 m_t_at_3 h
    · refine j_aload_n C dX4_number_11 rfl 1 rfl ?_
      refine j_aload_n C dX4_number_12 rfl 0 rfl ?_
      refine j_get C ibX4 (ci := 3) 0 rfl rfl 0 (by decide) bfX4_14 (v := .int m_t_at_3) rfl dX4_number_13 ?_
      obtain ⟨r8, q9, h⟩ := jl_bind h
      refine j_cV1 C (mX6_at (jlaunch X) D h_a1 h_a1_bytes a1_length a1_bytes_ m_t_at_3 r8 q9) bmX4_36 biX6_at bsX6_at bzX6 bcX6_at rfl hX6_at (rest := []) rfl (jroom_of rfl) 0 (ci := 5) rfl rfl rfl [1, 2] [0] [0, 1, 2] (wr := [(h_t, .inr (3, [.int m_t_at_3, .int t_first, .int t_second, .int t_stoneTold, .int t_paintTold]))]) (ws2 := [(h_t, .inr (3, [.int m_t_at_3, .int t_first, .int t_second, .int t_stoneTold, .int t_paintTold])), (h_a1, .inr (5, [.ref h_a1_bytes, .int a1_length])), (h_a1_bytes, jB D 200 a1_bytes_)]) rfl rfl rfl rfl rfl (Nat.le_of_ble_eq_true rfl) dX4_number_16 ?_
      obtain ⟨r10, q11, h⟩ := jl_bind h
      refine j_cS1 C (mX4_isFigure (jlaunch X) D r8 r10 q11) bmX4_53 btX4_isFigure bzX4 bcX4_isFigure hX4_isFigure (rest := []) rfl (jroom_of rfl) [] [0, 1, 2] [0, 1, 2] (wr := [(h_t, .inr (3, [.int m_t_at_3, .int t_first, .int t_second, .int t_stoneTold, .int t_paintTold])), (h_a1, .inr (5, [.ref h_a1_bytes, .int a1_length])), (h_a1_bytes, jB D 200 a1_bytes_)]) (ws2 := [(h_t, .inr (3, [.int m_t_at_3, .int t_first, .int t_second, .int t_stoneTold, .int t_paintTold])), (h_a1, .inr (5, [.ref h_a1_bytes, .int a1_length])), (h_a1_bytes, jB D 200 a1_bytes_)]) rfl rfl rfl rfl rfl (Nat.le_of_ble_eq_true rfl) dX4_number_19 ?_
      refine j_if_eq C (tgt := 58) dX4_number_22 (by decide) h (fun c12 h => ?_) (fun c12 h => ?_)
      · refine j_sub (lv' := [(0, .ref h_t), (1, .ref h_a1), (2, .int p2), (3, .int x1), (4, .int x2)]) [0, 1, 2, 3, 4] rfl ?_
        exact L58 x1 x2 m_t_at_3 h
      · refine j_bipush C dX4_number_25 (v := (10 : Int32)) (by decide) ?_
        refine j_iload_n C dX4_number_27 rfl 3 rfl ?_
        refine j_imul C dX4_number_28 ?_
        refine j_aload_n C dX4_number_29 rfl 1 rfl ?_
        refine j_aload_n C dX4_number_30 rfl 0 rfl ?_
        refine j_get C ibX4 (ci := 3) 0 rfl rfl 0 (by decide) bfX4_14 (v := .int m_t_at_3) rfl dX4_number_31 ?_
        obtain ⟨r13, q14, h⟩ := jl_bind h
        refine j_cV1 C (mX6_at (jlaunch X) D h_a1 h_a1_bytes a1_length a1_bytes_ m_t_at_3 r13 q14) bmX4_36 biX6_at bsX6_at bzX6 bcX6_at rfl hX6_at (rest := [.int (((10 : Int32)) * x1)]) rfl (jroom_of rfl) 0 (ci := 5) rfl rfl rfl [1, 2] [0] [0, 1, 2] (wr := [(h_t, .inr (3, [.int m_t_at_3, .int t_first, .int t_second, .int t_stoneTold, .int t_paintTold]))]) (ws2 := [(h_t, .inr (3, [.int m_t_at_3, .int t_first, .int t_second, .int t_stoneTold, .int t_paintTold])), (h_a1, .inr (5, [.ref h_a1_bytes, .int a1_length])), (h_a1_bytes, jB D 200 a1_bytes_)]) rfl rfl rfl rfl rfl (Nat.le_of_ble_eq_true rfl) dX4_number_34 ?_
        refine j_iadd C dX4_number_37 ?_
        refine j_bipush C dX4_number_38 (v := (48 : Int32)) (by decide) ?_
        refine j_isub C dX4_number_40 ?_
        refine j_istore_n C dX4_number_41 rfl (lv' := fun v15 => [(3, .int v15), (0, .ref h_t), (1, .ref h_a1), (2, .int p2), (4, .int x2)]) (by decide) (fun _ => rfl) h (fun v15 h => ?_)
        refine j_iinc C dX4_number_42 4 rfl (lv' := fun v16 => [(4, .int v16), (3, .int v15), (0, .ref h_t), (1, .ref h_a1), (2, .int p2)]) (by decide) (fun _ => rfl) h (fun v16 h => ?_)
        refine j_aload_n C dX4_number_45 rfl 2 rfl ?_
        refine j_dup C dX4_number_46 rfl ?_
        refine j_get C ibX4 (ci := 3) 0 rfl rfl 0 (by decide) bfX4_14 (v := .int m_t_at_3) rfl dX4_number_47 ?_
        refine j_iconst C dX4_number_50 (v := (1 : Int32)) (by decide) ?_
        refine j_iadd C dX4_number_51 ?_
        refine j_nmi h (fun w17 h => ?_)
        refine j_put C ibX4 tyX4 tyX4_ok nmX4 (ci := 3) 0 rfl rfl 0 (by decide) bfX4_14 rfl rfl rfl (Nat.le_of_ble_eq_true rfl) dX4_number_52 (ws' := [(h_t, .inr (3, [.int w17, .int t_first, .int t_second, .int t_stoneTold, .int t_paintTold])), (h_a1, .inr (5, [.ref h_a1_bytes, .int a1_length])), (h_a1_bytes, jB D 200 a1_bytes_)]) rfl ?_
        refine j_goto C dX4_number_55 (tgt := 5) (by decide) ?_
        refine j_sub (lv' := [(0, .ref h_t), (1, .ref h_a1), (2, .int p2), (3, .int v15), (4, .int v16)]) [2, 3, 4, 1, 0] rfl ?_
        exact i5 v15 v16 w17 h
  refine j_iconst C dX4_number_0 (v := (0 : Int32)) (by decide) ?_
  refine j_istore_nC C dX4_number_1 rfl (lv' := [(3, .int ((0 : Int32))), (0, .ref h_t), (1, .ref h_a1), (2, .int p2)]) (by decide) rfl ?_
  refine j_iconst C dX4_number_2 (v := (0 : Int32)) (by decide) ?_
  refine j_istoreC C dX4_number_3 (lv' := [(4, .int ((0 : Int32))), (3, .int ((0 : Int32))), (0, .ref h_t), (1, .ref h_a1), (2, .int p2)]) (by decide) rfl ?_
  refine j_sub (lv' := [(0, .ref h_t), (1, .ref h_a1), (2, .int p2), (3, .int ((0 : Int32))), (4, .int ((0 : Int32)))]) [2, 3, 4, 1, 0] rfl ?_
  exact L5 ((0 : Int32)) ((0 : Int32)) t_at h
theorem dX4_takesPair_0 : decode cX4_takesPair 0 = .ok (.aload_n 2, 1) := by decide +kernel
theorem dX4_takesPair_1 : decode cX4_takesPair 1 = .ok (.aload_n 0, 1) := by decide +kernel
theorem dX4_takesPair_2 : decode cX4_takesPair 2 = .ok (.getfield 46, 3) := by decide +kernel
theorem dX4_takesPair_5 : decode cX4_takesPair 5 = .ok (.invokevirtual 86, 3) := by decide +kernel
theorem dX4_takesPair_8 : decode cX4_takesPair 8 = .ok (.ifCond .eq 14, 3) := by decide +kernel
theorem dX4_takesPair_11 : decode cX4_takesPair 11 = .ok (.aload_n 2, 1) := by decide +kernel
theorem dX4_takesPair_12 : decode cX4_takesPair 12 = .ok (.aload_n 0, 1) := by decide +kernel
theorem dX4_takesPair_13 : decode cX4_takesPair 13 = .ok (.getfield 39, 3) := by decide +kernel
theorem dX4_takesPair_16 : decode cX4_takesPair 16 = .ok (.invokevirtual 86, 3) := by decide +kernel
theorem dX4_takesPair_19 : decode cX4_takesPair 19 = .ok (.ifCond .ne 5, 3) := by decide +kernel
theorem dX4_takesPair_22 : decode cX4_takesPair 22 = .ok (.iconst 0, 1) := by decide +kernel
theorem dX4_takesPair_23 : decode cX4_takesPair 23 = .ok (.ireturn, 1) := by decide +kernel
theorem dX4_takesPair_24 : decode cX4_takesPair 24 = .ok (.iload_n 1, 1) := by decide +kernel
theorem dX4_takesPair_25 : decode cX4_takesPair 25 = .ok (.ifCond .eq 18, 3) := by decide +kernel
theorem dX4_takesPair_28 : decode cX4_takesPair 28 = .ok (.aload_n 2, 1) := by decide +kernel
theorem dX4_takesPair_29 : decode cX4_takesPair 29 = .ok (.aload_n 0, 1) := by decide +kernel
theorem dX4_takesPair_30 : decode cX4_takesPair 30 = .ok (.getfield 46, 3) := by decide +kernel
theorem dX4_takesPair_33 : decode cX4_takesPair 33 = .ok (.aload_n 0, 1) := by decide +kernel
theorem dX4_takesPair_34 : decode cX4_takesPair 34 = .ok (.getfield 39, 3) := by decide +kernel
theorem dX4_takesPair_37 : decode cX4_takesPair 37 = .ok (.invokevirtual 89, 3) := by decide +kernel
theorem dX4_takesPair_40 : decode cX4_takesPair 40 = .ok (.goto 15, 3) := by decide +kernel
theorem dX4_takesPair_43 : decode cX4_takesPair 43 = .ok (.aload_n 2, 1) := by decide +kernel
theorem dX4_takesPair_44 : decode cX4_takesPair 44 = .ok (.aload_n 0, 1) := by decide +kernel
theorem dX4_takesPair_45 : decode cX4_takesPair 45 = .ok (.getfield 46, 3) := by decide +kernel
theorem dX4_takesPair_48 : decode cX4_takesPair 48 = .ok (.aload_n 0, 1) := by decide +kernel
theorem dX4_takesPair_49 : decode cX4_takesPair 49 = .ok (.getfield 39, 3) := by decide +kernel
theorem dX4_takesPair_52 : decode cX4_takesPair 52 = .ok (.invokevirtual 93, 3) := by decide +kernel
theorem dX4_takesPair_55 : decode cX4_takesPair 55 = .ok (.aload_n 0, 1) := by decide +kernel
theorem dX4_takesPair_56 : decode cX4_takesPair 56 = .ok (.iconst 1, 1) := by decide +kernel
theorem dX4_takesPair_57 : decode cX4_takesPair 57 = .ok (.putfield 24, 3) := by decide +kernel
theorem dX4_takesPair_60 : decode cX4_takesPair 60 = .ok (.iconst 1, 1) := by decide +kernel
theorem dX4_takesPair_61 : decode cX4_takesPair 61 = .ok (.ireturn, 1) := by decide +kernel
def fX4_takesPair_55 (t_first : Int32) (t_second : Int32) (a2_paints : Int32) (p1 : Int32)  (m_t_paintTold_10 : Int32) (m_a2_apart_11 : Int32) : Option (Int32 × Int32 × Int32) :=
(some ((1 : Int32), (1 : Int32), m_a2_apart_11))
def fX4_takesPair (t_first : Int32) (t_second : Int32) (t_paintTold : Int32) (a2_paints : Int32) (a2_apart : Int32) (p1 : Int32) : Option (Int32 × Int32 × Int32) :=
((fX3_hasPaint a2_paints t_first).bind fun r1 =>
(if r1 = 0 then
(some ((0 : Int32), t_paintTold, a2_apart))
else
((fX3_hasPaint a2_paints t_second).bind fun r4 =>
(if r4 = 0 then
(some ((0 : Int32), t_paintTold, a2_apart))
else
(if p1 = 0 then
((fX3_setTogether a2_apart t_first t_second).bind fun r8 =>
(fX4_takesPair_55 t_first t_second a2_paints p1 t_paintTold r8))
else
((fX3_setApart a2_apart t_first t_second).bind fun r12 =>
(fX4_takesPair_55 t_first t_second a2_paints p1 t_paintTold r12)))))))
def oX4_takesPair (D : jv_D) (h_t : Nat) (h_a2 : Nat) (h_a2_ruledOut : Nat) (t_at : Int32) (t_first : Int32) (t_second : Int32) (t_stoneTold : Int32) (a2_rows : Int32) (a2_columns : Int32) (a2_paints : Int32) (a2_paintsOf0 : Int32) (a2_paintsOf1 : Int32) (a2_old : Int32) (a2_shut : Int32) (a2_all : Int32) (a2_firstColumn : Int32) (a2_fitsAtFirst : Int32) (a2_paintingsOf0 : Int32) (a2_paintingsOf1 : Int32) (r : Int32 × Int32 × Int32) : va_W := [(h_t, .inr (3, [.int t_at, .int t_first, .int t_second, .int t_stoneTold, .int r.2.1])), (h_a2, .inr (2, [.int a2_rows, .int a2_columns, .int a2_paints, .int r.2.2, .int a2_paintsOf0, .int a2_paintsOf1, .int a2_old, .int a2_shut, .int a2_all, .int a2_firstColumn, .int a2_fitsAtFirst, .int a2_paintingsOf0, .int a2_paintingsOf1, .ref h_a2_ruledOut]))]
set_option maxHeartbeats 40000000 in
set_option maxRecDepth 100000 in
theorem mX4_takesPair (l : Launch) (D : jv_D) (h_t : Nat) (h_a2 : Nat) (h_a2_ruledOut : Nat) (t_at : Int32) (t_first : Int32) (t_second : Int32) (t_stoneTold : Int32) (t_paintTold : Int32) (a2_rows : Int32) (a2_columns : Int32) (a2_paints : Int32) (a2_apart : Int32) (a2_paintsOf0 : Int32) (a2_paintsOf1 : Int32) (a2_old : Int32) (a2_shut : Int32) (a2_all : Int32) (a2_firstColumn : Int32) (a2_fitsAtFirst : Int32) (a2_paintingsOf0 : Int32) (a2_paintingsOf1 : Int32) (p1 : Int32) (r : Int32 × Int32 × Int32) (h : fX4_takesPair t_first t_second t_paintTold a2_paints a2_apart p1 = some r) : MM l yX4_takesPair (jW yX4_takesPair cX4_takesPair 3 (some .boolean)) ({ frames := 2, cells := 0, slots := 0, locals := 43 }) D [.ref h_t, .int p1, .ref h_a2] [(h_t, .inr (3, [.int t_at, .int t_first, .int t_second, .int t_stoneTold, .int t_paintTold])), (h_a2, .inr (2, [.int a2_rows, .int a2_columns, .int a2_paints, .int a2_apart, .int a2_paintsOf0, .int a2_paintsOf1, .int a2_old, .int a2_shut, .int a2_all, .int a2_firstColumn, .int a2_fitsAtFirst, .int a2_paintingsOf0, .int a2_paintingsOf1, .ref h_a2_ruledOut]))] (some (.int r.1)) (oX4_takesPair D h_t h_a2 h_a2_ruledOut t_at t_first t_second t_stoneTold a2_rows a2_columns a2_paints a2_paintsOf0 a2_paintsOf1 a2_old a2_shut a2_all a2_firstColumn a2_fitsAtFirst a2_paintingsOf0 a2_paintingsOf1 r) := by
  refine mn_of hpX4_takesPair (Nat.le_of_ble_eq_true rfl) ?_
  intro X hXl C E0 hN
  subst hXl
  replace C : JC D X 3 RX4 cX4_takesPair ({ frames := 2, cells := 0, slots := 0, locals := 43 }) := C
  have E : JE D X 0 0 (some .boolean) (fun _ : Unit => (some (.int r.1))) (fun _ : Unit => (oX4_takesPair D h_t h_a2 h_a2_ruledOut t_at t_first t_second t_stoneTold a2_rows a2_columns a2_paints a2_paintsOf0 a2_paintsOf1 a2_old a2_shut a2_all a2_firstColumn a2_fitsAtFirst a2_paintingsOf0 a2_paintingsOf1 r)) := E0 0 0 rfl rfl
  clear E0 hN
  show JJ D X 3 0 0 0 [(0, .ref h_t), (1, .int p1), (2, .ref h_a2)] [] [(h_t, .inr (3, [.int t_at, .int t_first, .int t_second, .int t_stoneTold, .int t_paintTold])), (h_a2, .inr (2, [.int a2_rows, .int a2_columns, .int a2_paints, .int a2_apart, .int a2_paintsOf0, .int a2_paintsOf1, .int a2_old, .int a2_shut, .int a2_all, .int a2_firstColumn, .int a2_fitsAtFirst, .int a2_paintingsOf0, .int a2_paintingsOf1, .ref h_a2_ruledOut]))]
  unfold fX4_takesPair at h
  have L55 : ∀ (m_t_paintTold_10 : Int32) (m_a2_apart_11 : Int32), fX4_takesPair_55 t_first t_second a2_paints p1  m_t_paintTold_10 m_a2_apart_11 = some r → JJ D X 3 0 0 55 [(0, .ref h_t)] [] [(h_t, .inr (3, [.int t_at, .int t_first, .int t_second, .int t_stoneTold, .int m_t_paintTold_10])), (h_a2, .inr (2, [.int a2_rows, .int a2_columns, .int a2_paints, .int m_a2_apart_11, .int a2_paintsOf0, .int a2_paintsOf1, .int a2_old, .int a2_shut, .int a2_all, .int a2_firstColumn, .int a2_fitsAtFirst, .int a2_paintingsOf0, .int a2_paintingsOf1, .ref h_a2_ruledOut]))] := by
    intro m_t_paintTold_10 m_a2_apart_11 h
    unfold fX4_takesPair_55 at h
    refine j_aload_n C dX4_takesPair_55 rfl 0 rfl ?_
    refine j_iconst C dX4_takesPair_56 (v := (1 : Int32)) (by decide) ?_
    refine j_put C ibX4 tyX4 tyX4_ok nmX4 (ci := 3) 0 rfl rfl 4 (by decide) bfX4_24 rfl rfl rfl (Nat.le_of_ble_eq_true rfl) dX4_takesPair_57 (ws' := [(h_t, .inr (3, [.int t_at, .int t_first, .int t_second, .int t_stoneTold, .int ((1 : Int32))])), (h_a2, .inr (2, [.int a2_rows, .int a2_columns, .int a2_paints, .int m_a2_apart_11, .int a2_paintsOf0, .int a2_paintsOf1, .int a2_old, .int a2_shut, .int a2_all, .int a2_firstColumn, .int a2_fitsAtFirst, .int a2_paintingsOf0, .int a2_paintingsOf1, .ref h_a2_ruledOut]))]) rfl ?_
    refine j_iconst C dX4_takesPair_60 (v := (1 : Int32)) (by decide) ?_
    exact j_zretR C (r := r) (rtf := fun r => (some (.int r.1))) (wff := fun r => (oX4_takesPair D h_t h_a2 h_a2_ruledOut t_at t_first t_second t_stoneTold a2_rows a2_columns a2_paints a2_paintsOf0 a2_paintsOf1 a2_old a2_shut a2_all a2_firstColumn a2_fitsAtFirst a2_paintingsOf0 a2_paintingsOf1 r)) E rfl h rfl rfl dX4_takesPair_61
  refine j_aload_n C dX4_takesPair_0 rfl 2 rfl ?_
  refine j_aload_n C dX4_takesPair_1 rfl 0 rfl ?_
  refine j_get C ibX4 (ci := 3) 0 rfl rfl 1 (by decide) bfX4_46 (v := .int t_first) rfl dX4_takesPair_2 ?_
  obtain ⟨r1, q2, h⟩ := jl_bind h
  refine j_cV1 C (mX3_hasPaint (jlaunch X) D h_a2 h_a2_ruledOut a2_rows a2_columns a2_paints a2_apart a2_paintsOf0 a2_paintsOf1 a2_old a2_shut a2_all a2_firstColumn a2_fitsAtFirst a2_paintingsOf0 a2_paintingsOf1 t_first r1 q2) bmX4_86 biX3_hasPaint bsX3_hasPaint bzX3 bcX3_hasPaint rfl hX3_hasPaint (rest := []) rfl (jroom_of rfl) 0 (ci := 2) rfl rfl rfl [1] [0] [0, 1] (wr := [(h_t, .inr (3, [.int t_at, .int t_first, .int t_second, .int t_stoneTold, .int t_paintTold]))]) (ws2 := [(h_t, .inr (3, [.int t_at, .int t_first, .int t_second, .int t_stoneTold, .int t_paintTold])), (h_a2, .inr (2, [.int a2_rows, .int a2_columns, .int a2_paints, .int a2_apart, .int a2_paintsOf0, .int a2_paintsOf1, .int a2_old, .int a2_shut, .int a2_all, .int a2_firstColumn, .int a2_fitsAtFirst, .int a2_paintingsOf0, .int a2_paintingsOf1, .ref h_a2_ruledOut]))]) rfl rfl rfl rfl rfl (Nat.le_of_ble_eq_true rfl) dX4_takesPair_5 ?_
  refine j_if_eq C (tgt := 22) dX4_takesPair_8 (by decide) h (fun c3 h => ?_) (fun c3 h => ?_)
  · refine j_iconst C dX4_takesPair_22 (v := (0 : Int32)) (by decide) ?_
    exact j_zretR C (r := r) (rtf := fun r => (some (.int r.1))) (wff := fun r => (oX4_takesPair D h_t h_a2 h_a2_ruledOut t_at t_first t_second t_stoneTold a2_rows a2_columns a2_paints a2_paintsOf0 a2_paintsOf1 a2_old a2_shut a2_all a2_firstColumn a2_fitsAtFirst a2_paintingsOf0 a2_paintingsOf1 r)) E rfl h rfl rfl dX4_takesPair_23
  · refine j_aload_n C dX4_takesPair_11 rfl 2 rfl ?_
    refine j_aload_n C dX4_takesPair_12 rfl 0 rfl ?_
    refine j_get C ibX4 (ci := 3) 0 rfl rfl 2 (by decide) bfX4_39 (v := .int t_second) rfl dX4_takesPair_13 ?_
    obtain ⟨r4, q5, h⟩ := jl_bind h
    refine j_cV1 C (mX3_hasPaint (jlaunch X) D h_a2 h_a2_ruledOut a2_rows a2_columns a2_paints a2_apart a2_paintsOf0 a2_paintsOf1 a2_old a2_shut a2_all a2_firstColumn a2_fitsAtFirst a2_paintingsOf0 a2_paintingsOf1 t_second r4 q5) bmX4_86 biX3_hasPaint bsX3_hasPaint bzX3 bcX3_hasPaint rfl hX3_hasPaint (rest := []) rfl (jroom_of rfl) 0 (ci := 2) rfl rfl rfl [1] [0] [0, 1] (wr := [(h_t, .inr (3, [.int t_at, .int t_first, .int t_second, .int t_stoneTold, .int t_paintTold]))]) (ws2 := [(h_t, .inr (3, [.int t_at, .int t_first, .int t_second, .int t_stoneTold, .int t_paintTold])), (h_a2, .inr (2, [.int a2_rows, .int a2_columns, .int a2_paints, .int a2_apart, .int a2_paintsOf0, .int a2_paintsOf1, .int a2_old, .int a2_shut, .int a2_all, .int a2_firstColumn, .int a2_fitsAtFirst, .int a2_paintingsOf0, .int a2_paintingsOf1, .ref h_a2_ruledOut]))]) rfl rfl rfl rfl rfl (Nat.le_of_ble_eq_true rfl) dX4_takesPair_16 ?_
    refine j_if_ne C (tgt := 24) dX4_takesPair_19 (by decide) h (fun c6 h => ?_) (fun c6 h => ?_)
    · refine j_iconst C dX4_takesPair_22 (v := (0 : Int32)) (by decide) ?_
      exact j_zretR C (r := r) (rtf := fun r => (some (.int r.1))) (wff := fun r => (oX4_takesPair D h_t h_a2 h_a2_ruledOut t_at t_first t_second t_stoneTold a2_rows a2_columns a2_paints a2_paintsOf0 a2_paintsOf1 a2_old a2_shut a2_all a2_firstColumn a2_fitsAtFirst a2_paintingsOf0 a2_paintingsOf1 r)) E rfl h rfl rfl dX4_takesPair_23
    · refine j_iload_n C dX4_takesPair_24 rfl 1 rfl ?_
      refine j_if_eq C (tgt := 43) dX4_takesPair_25 (by decide) h (fun c7 h => ?_) (fun c7 h => ?_)
      · refine j_aload_n C dX4_takesPair_43 rfl 2 rfl ?_
        refine j_aload_n C dX4_takesPair_44 rfl 0 rfl ?_
        refine j_get C ibX4 (ci := 3) 0 rfl rfl 1 (by decide) bfX4_46 (v := .int t_first) rfl dX4_takesPair_45 ?_
        refine j_aload_n C dX4_takesPair_48 rfl 0 rfl ?_
        refine j_get C ibX4 (ci := 3) 0 rfl rfl 2 (by decide) bfX4_39 (v := .int t_second) rfl dX4_takesPair_49 ?_
        obtain ⟨r8, q9, h⟩ := jl_bind h
        refine j_cV0 C (mX3_setTogether (jlaunch X) D h_a2 h_a2_ruledOut a2_rows a2_columns a2_paints a2_apart a2_paintsOf0 a2_paintsOf1 a2_old a2_shut a2_all a2_firstColumn a2_fitsAtFirst a2_paintingsOf0 a2_paintingsOf1 t_first t_second r8 q9) bmX4_93 biX3_setTogether bsX3_setTogether bzX3 bcX3_setTogether rfl hX3_setTogether (rest := []) rfl (jroom_of rfl) 0 (ci := 2) rfl rfl rfl [1] [0] [0, 1] (wr := [(h_t, .inr (3, [.int t_at, .int t_first, .int t_second, .int t_stoneTold, .int t_paintTold]))]) (ws2 := [(h_t, .inr (3, [.int t_at, .int t_first, .int t_second, .int t_stoneTold, .int t_paintTold])), (h_a2, .inr (2, [.int a2_rows, .int a2_columns, .int a2_paints, .int r8, .int a2_paintsOf0, .int a2_paintsOf1, .int a2_old, .int a2_shut, .int a2_all, .int a2_firstColumn, .int a2_fitsAtFirst, .int a2_paintingsOf0, .int a2_paintingsOf1, .ref h_a2_ruledOut]))]) rfl rfl rfl rfl rfl (Nat.le_of_ble_eq_true rfl) dX4_takesPair_52 ?_
        refine j_sub (lv' := [(0, .ref h_t)]) [0] rfl ?_
        exact L55 t_paintTold r8 h
      · refine j_aload_n C dX4_takesPair_28 rfl 2 rfl ?_
        refine j_aload_n C dX4_takesPair_29 rfl 0 rfl ?_
        refine j_get C ibX4 (ci := 3) 0 rfl rfl 1 (by decide) bfX4_46 (v := .int t_first) rfl dX4_takesPair_30 ?_
        refine j_aload_n C dX4_takesPair_33 rfl 0 rfl ?_
        refine j_get C ibX4 (ci := 3) 0 rfl rfl 2 (by decide) bfX4_39 (v := .int t_second) rfl dX4_takesPair_34 ?_
        obtain ⟨r12, q13, h⟩ := jl_bind h
        refine j_cV0 C (mX3_setApart (jlaunch X) D h_a2 h_a2_ruledOut a2_rows a2_columns a2_paints a2_apart a2_paintsOf0 a2_paintsOf1 a2_old a2_shut a2_all a2_firstColumn a2_fitsAtFirst a2_paintingsOf0 a2_paintingsOf1 t_first t_second r12 q13) bmX4_89 biX3_setApart bsX3_setApart bzX3 bcX3_setApart rfl hX3_setApart (rest := []) rfl (jroom_of rfl) 0 (ci := 2) rfl rfl rfl [1] [0] [0, 1] (wr := [(h_t, .inr (3, [.int t_at, .int t_first, .int t_second, .int t_stoneTold, .int t_paintTold]))]) (ws2 := [(h_t, .inr (3, [.int t_at, .int t_first, .int t_second, .int t_stoneTold, .int t_paintTold])), (h_a2, .inr (2, [.int a2_rows, .int a2_columns, .int a2_paints, .int r12, .int a2_paintsOf0, .int a2_paintsOf1, .int a2_old, .int a2_shut, .int a2_all, .int a2_firstColumn, .int a2_fitsAtFirst, .int a2_paintingsOf0, .int a2_paintingsOf1, .ref h_a2_ruledOut]))]) rfl rfl rfl rfl rfl (Nat.le_of_ble_eq_true rfl) dX4_takesPair_37 ?_
        refine j_goto C dX4_takesPair_40 (tgt := 55) (by decide) ?_
        refine j_sub (lv' := [(0, .ref h_t)]) [0] rfl ?_
        exact L55 t_paintTold r12 h
theorem dX4_takesShut_0 : decode cX4_takesShut 0 = .ok (.aload_n 1, 1) := by decide +kernel
theorem dX4_takesShut_1 : decode cX4_takesShut 1 = .ok (.aload_n 0, 1) := by decide +kernel
theorem dX4_takesShut_2 : decode cX4_takesShut 2 = .ok (.getfield 46, 3) := by decide +kernel
theorem dX4_takesShut_5 : decode cX4_takesShut 5 = .ok (.invokevirtual 109, 3) := by decide +kernel
theorem dX4_takesShut_8 : decode cX4_takesShut 8 = .ok (.ifCond .ne 5, 3) := by decide +kernel
theorem dX4_takesShut_11 : decode cX4_takesShut 11 = .ok (.iconst 0, 1) := by decide +kernel
theorem dX4_takesShut_12 : decode cX4_takesShut 12 = .ok (.ireturn, 1) := by decide +kernel
theorem dX4_takesShut_13 : decode cX4_takesShut 13 = .ok (.aload_n 1, 1) := by decide +kernel
theorem dX4_takesShut_14 : decode cX4_takesShut 14 = .ok (.aload_n 0, 1) := by decide +kernel
theorem dX4_takesShut_15 : decode cX4_takesShut 15 = .ok (.getfield 46, 3) := by decide +kernel
theorem dX4_takesShut_18 : decode cX4_takesShut 18 = .ok (.invokevirtual 115, 3) := by decide +kernel
theorem dX4_takesShut_21 : decode cX4_takesShut 21 = .ok (.aload_n 0, 1) := by decide +kernel
theorem dX4_takesShut_22 : decode cX4_takesShut 22 = .ok (.iconst 1, 1) := by decide +kernel
theorem dX4_takesShut_23 : decode cX4_takesShut 23 = .ok (.putfield 20, 3) := by decide +kernel
theorem dX4_takesShut_26 : decode cX4_takesShut 26 = .ok (.iconst 1, 1) := by decide +kernel
theorem dX4_takesShut_27 : decode cX4_takesShut 27 = .ok (.ireturn, 1) := by decide +kernel
def fX4_takesShut (t_first : Int32) (t_stoneTold : Int32) (a1_rows : Int32) (a1_columns : Int32) (a1_old : Int32) (a1_shut : Int32) : Option (Int32 × Int32 × Int32 × Int32) :=
((fX3_hasStone a1_rows a1_columns t_first).bind fun r1 =>
(if r1 = 0 then
(some ((0 : Int32), t_stoneTold, a1_old, a1_shut))
else
((fX3_setShut a1_old a1_shut t_first).bind fun r4 =>
(some ((1 : Int32), (1 : Int32), r4.1, r4.2)))))
def oX4_takesShut (D : jv_D) (h_t : Nat) (h_a1 : Nat) (h_a1_ruledOut : Nat) (t_at : Int32) (t_first : Int32) (t_second : Int32) (t_paintTold : Int32) (a1_rows : Int32) (a1_columns : Int32) (a1_paints : Int32) (a1_apart : Int32) (a1_paintsOf0 : Int32) (a1_paintsOf1 : Int32) (a1_all : Int32) (a1_firstColumn : Int32) (a1_fitsAtFirst : Int32) (a1_paintingsOf0 : Int32) (a1_paintingsOf1 : Int32) (r : Int32 × Int32 × Int32 × Int32) : va_W := [(h_t, .inr (3, [.int t_at, .int t_first, .int t_second, .int r.2.1, .int t_paintTold])), (h_a1, .inr (2, [.int a1_rows, .int a1_columns, .int a1_paints, .int a1_apart, .int a1_paintsOf0, .int a1_paintsOf1, .int r.2.2.1, .int r.2.2.2, .int a1_all, .int a1_firstColumn, .int a1_fitsAtFirst, .int a1_paintingsOf0, .int a1_paintingsOf1, .ref h_a1_ruledOut]))]
set_option maxHeartbeats 40000000 in
set_option maxRecDepth 100000 in
theorem mX4_takesShut (l : Launch) (D : jv_D) (h_t : Nat) (h_a1 : Nat) (h_a1_ruledOut : Nat) (t_at : Int32) (t_first : Int32) (t_second : Int32) (t_stoneTold : Int32) (t_paintTold : Int32) (a1_rows : Int32) (a1_columns : Int32) (a1_paints : Int32) (a1_apart : Int32) (a1_paintsOf0 : Int32) (a1_paintsOf1 : Int32) (a1_old : Int32) (a1_shut : Int32) (a1_all : Int32) (a1_firstColumn : Int32) (a1_fitsAtFirst : Int32) (a1_paintingsOf0 : Int32) (a1_paintingsOf1 : Int32) (r : Int32 × Int32 × Int32 × Int32) (h : fX4_takesShut t_first t_stoneTold a1_rows a1_columns a1_old a1_shut = some r) : MM l yX4_takesShut (jW yX4_takesShut cX4_takesShut 2 (some .boolean)) ({ frames := 2, cells := 0, slots := 0, locals := 42 }) D [.ref h_t, .ref h_a1] [(h_t, .inr (3, [.int t_at, .int t_first, .int t_second, .int t_stoneTold, .int t_paintTold])), (h_a1, .inr (2, [.int a1_rows, .int a1_columns, .int a1_paints, .int a1_apart, .int a1_paintsOf0, .int a1_paintsOf1, .int a1_old, .int a1_shut, .int a1_all, .int a1_firstColumn, .int a1_fitsAtFirst, .int a1_paintingsOf0, .int a1_paintingsOf1, .ref h_a1_ruledOut]))] (some (.int r.1)) (oX4_takesShut D h_t h_a1 h_a1_ruledOut t_at t_first t_second t_paintTold a1_rows a1_columns a1_paints a1_apart a1_paintsOf0 a1_paintsOf1 a1_all a1_firstColumn a1_fitsAtFirst a1_paintingsOf0 a1_paintingsOf1 r) := by
  refine mn_of hpX4_takesShut (Nat.le_of_ble_eq_true rfl) ?_
  intro X hXl C E0 hN
  subst hXl
  replace C : JC D X 2 RX4 cX4_takesShut ({ frames := 2, cells := 0, slots := 0, locals := 42 }) := C
  have E : JE D X 0 0 (some .boolean) (fun _ : Unit => (some (.int r.1))) (fun _ : Unit => (oX4_takesShut D h_t h_a1 h_a1_ruledOut t_at t_first t_second t_paintTold a1_rows a1_columns a1_paints a1_apart a1_paintsOf0 a1_paintsOf1 a1_all a1_firstColumn a1_fitsAtFirst a1_paintingsOf0 a1_paintingsOf1 r)) := E0 0 0 rfl rfl
  clear E0 hN
  show JJ D X 2 0 0 0 [(0, .ref h_t), (1, .ref h_a1)] [] [(h_t, .inr (3, [.int t_at, .int t_first, .int t_second, .int t_stoneTold, .int t_paintTold])), (h_a1, .inr (2, [.int a1_rows, .int a1_columns, .int a1_paints, .int a1_apart, .int a1_paintsOf0, .int a1_paintsOf1, .int a1_old, .int a1_shut, .int a1_all, .int a1_firstColumn, .int a1_fitsAtFirst, .int a1_paintingsOf0, .int a1_paintingsOf1, .ref h_a1_ruledOut]))]
  unfold fX4_takesShut at h
  refine j_aload_n C dX4_takesShut_0 rfl 1 rfl ?_
  refine j_aload_n C dX4_takesShut_1 rfl 0 rfl ?_
  refine j_get C ibX4 (ci := 3) 0 rfl rfl 1 (by decide) bfX4_46 (v := .int t_first) rfl dX4_takesShut_2 ?_
  obtain ⟨r1, q2, h⟩ := jl_bind h
  refine j_cV1 C (mX3_hasStone (jlaunch X) D h_a1 h_a1_ruledOut a1_rows a1_columns a1_paints a1_apart a1_paintsOf0 a1_paintsOf1 a1_old a1_shut a1_all a1_firstColumn a1_fitsAtFirst a1_paintingsOf0 a1_paintingsOf1 t_first r1 q2) bmX4_109 biX3_hasStone bsX3_hasStone bzX3 bcX3_hasStone rfl hX3_hasStone (rest := []) rfl (jroom_of rfl) 0 (ci := 2) rfl rfl rfl [1] [0] [0, 1] (wr := [(h_t, .inr (3, [.int t_at, .int t_first, .int t_second, .int t_stoneTold, .int t_paintTold]))]) (ws2 := [(h_t, .inr (3, [.int t_at, .int t_first, .int t_second, .int t_stoneTold, .int t_paintTold])), (h_a1, .inr (2, [.int a1_rows, .int a1_columns, .int a1_paints, .int a1_apart, .int a1_paintsOf0, .int a1_paintsOf1, .int a1_old, .int a1_shut, .int a1_all, .int a1_firstColumn, .int a1_fitsAtFirst, .int a1_paintingsOf0, .int a1_paintingsOf1, .ref h_a1_ruledOut]))]) rfl rfl rfl rfl rfl (Nat.le_of_ble_eq_true rfl) dX4_takesShut_5 ?_
  refine j_if_ne C (tgt := 13) dX4_takesShut_8 (by decide) h (fun c3 h => ?_) (fun c3 h => ?_)
  · refine j_iconst C dX4_takesShut_11 (v := (0 : Int32)) (by decide) ?_
    exact j_zretR C (r := r) (rtf := fun r => (some (.int r.1))) (wff := fun r => (oX4_takesShut D h_t h_a1 h_a1_ruledOut t_at t_first t_second t_paintTold a1_rows a1_columns a1_paints a1_apart a1_paintsOf0 a1_paintsOf1 a1_all a1_firstColumn a1_fitsAtFirst a1_paintingsOf0 a1_paintingsOf1 r)) E rfl h rfl rfl dX4_takesShut_12
  · refine j_aload_n C dX4_takesShut_13 rfl 1 rfl ?_
    refine j_aload_n C dX4_takesShut_14 rfl 0 rfl ?_
    refine j_get C ibX4 (ci := 3) 0 rfl rfl 1 (by decide) bfX4_46 (v := .int t_first) rfl dX4_takesShut_15 ?_
    obtain ⟨r4, q5, h⟩ := jl_bind h
    refine j_cV0 C (mX3_setShut (jlaunch X) D h_a1 h_a1_ruledOut a1_rows a1_columns a1_paints a1_apart a1_paintsOf0 a1_paintsOf1 a1_old a1_shut a1_all a1_firstColumn a1_fitsAtFirst a1_paintingsOf0 a1_paintingsOf1 t_first r4 q5) bmX4_115 biX3_setShut bsX3_setShut bzX3 bcX3_setShut rfl hX3_setShut (rest := []) rfl (jroom_of rfl) 0 (ci := 2) rfl rfl rfl [1] [0] [0, 1] (wr := [(h_t, .inr (3, [.int t_at, .int t_first, .int t_second, .int t_stoneTold, .int t_paintTold]))]) (ws2 := [(h_t, .inr (3, [.int t_at, .int t_first, .int t_second, .int t_stoneTold, .int t_paintTold])), (h_a1, .inr (2, [.int a1_rows, .int a1_columns, .int a1_paints, .int a1_apart, .int a1_paintsOf0, .int a1_paintsOf1, .int r4.1, .int r4.2, .int a1_all, .int a1_firstColumn, .int a1_fitsAtFirst, .int a1_paintingsOf0, .int a1_paintingsOf1, .ref h_a1_ruledOut]))]) rfl rfl rfl rfl rfl (Nat.le_of_ble_eq_true rfl) dX4_takesShut_18 ?_
    refine j_aload_n C dX4_takesShut_21 rfl 0 rfl ?_
    refine j_iconst C dX4_takesShut_22 (v := (1 : Int32)) (by decide) ?_
    refine j_put C ibX4 tyX4 tyX4_ok nmX4 (ci := 3) 0 rfl rfl 3 (by decide) bfX4_20 rfl rfl rfl (Nat.le_of_ble_eq_true rfl) dX4_takesShut_23 (ws' := [(h_t, .inr (3, [.int t_at, .int t_first, .int t_second, .int ((1 : Int32)), .int t_paintTold])), (h_a1, .inr (2, [.int a1_rows, .int a1_columns, .int a1_paints, .int a1_apart, .int a1_paintsOf0, .int a1_paintsOf1, .int r4.1, .int r4.2, .int a1_all, .int a1_firstColumn, .int a1_fitsAtFirst, .int a1_paintingsOf0, .int a1_paintingsOf1, .ref h_a1_ruledOut]))]) rfl ?_
    refine j_iconst C dX4_takesShut_26 (v := (1 : Int32)) (by decide) ?_
    exact j_zretR C (r := r) (rtf := fun r => (some (.int r.1))) (wff := fun r => (oX4_takesShut D h_t h_a1 h_a1_ruledOut t_at t_first t_second t_paintTold a1_rows a1_columns a1_paints a1_apart a1_paintsOf0 a1_paintsOf1 a1_all a1_firstColumn a1_fitsAtFirst a1_paintingsOf0 a1_paintingsOf1 r)) E rfl h rfl rfl dX4_takesShut_27
theorem dX4_takesShape_0 : decode cX4_takesShape 0 = .ok (.aload_n 0, 1) := by decide +kernel
theorem dX4_takesShape_1 : decode cX4_takesShape 1 = .ok (.getfield 20, 3) := by decide +kernel
theorem dX4_takesShape_4 : decode cX4_takesShape 4 = .ok (.ifCond .ne 33, 3) := by decide +kernel
theorem dX4_takesShape_7 : decode cX4_takesShape 7 = .ok (.aload_n 0, 1) := by decide +kernel
theorem dX4_takesShape_8 : decode cX4_takesShape 8 = .ok (.getfield 46, 3) := by decide +kernel
theorem dX4_takesShape_11 : decode cX4_takesShape 11 = .ok (.iconst 1, 1) := by decide +kernel
theorem dX4_takesShape_12 : decode cX4_takesShape 12 = .ok (.if_icmp .lt 25, 3) := by decide +kernel
theorem dX4_takesShape_15 : decode cX4_takesShape 15 = .ok (.aload_n 0, 1) := by decide +kernel
theorem dX4_takesShape_16 : decode cX4_takesShape 16 = .ok (.getfield 39, 3) := by decide +kernel
theorem dX4_takesShape_19 : decode cX4_takesShape 19 = .ok (.iconst 1, 1) := by decide +kernel
theorem dX4_takesShape_20 : decode cX4_takesShape 20 = .ok (.if_icmp .lt 17, 3) := by decide +kernel
theorem dX4_takesShape_23 : decode cX4_takesShape 23 = .ok (.aload_n 0, 1) := by decide +kernel
theorem dX4_takesShape_24 : decode cX4_takesShape 24 = .ok (.getfield 46, 3) := by decide +kernel
theorem dX4_takesShape_27 : decode cX4_takesShape 27 = .ok (.aload_n 0, 1) := by decide +kernel
theorem dX4_takesShape_28 : decode cX4_takesShape 28 = .ok (.getfield 39, 3) := by decide +kernel
theorem dX4_takesShape_31 : decode cX4_takesShape 31 = .ok (.imul, 1) := by decide +kernel
theorem dX4_takesShape_32 : decode cX4_takesShape 32 = .ok (.bipush 9, 2) := by decide +kernel
theorem dX4_takesShape_34 : decode cX4_takesShape 34 = .ok (.if_icmp .le 5, 3) := by decide +kernel
theorem dX4_takesShape_37 : decode cX4_takesShape 37 = .ok (.iconst 0, 1) := by decide +kernel
theorem dX4_takesShape_38 : decode cX4_takesShape 38 = .ok (.ireturn, 1) := by decide +kernel
theorem dX4_takesShape_39 : decode cX4_takesShape 39 = .ok (.aload_n 1, 1) := by decide +kernel
theorem dX4_takesShape_40 : decode cX4_takesShape 40 = .ok (.aload_n 0, 1) := by decide +kernel
theorem dX4_takesShape_41 : decode cX4_takesShape 41 = .ok (.getfield 46, 3) := by decide +kernel
theorem dX4_takesShape_44 : decode cX4_takesShape 44 = .ok (.putfield 77, 3) := by decide +kernel
theorem dX4_takesShape_47 : decode cX4_takesShape 47 = .ok (.aload_n 1, 1) := by decide +kernel
theorem dX4_takesShape_48 : decode cX4_takesShape 48 = .ok (.aload_n 0, 1) := by decide +kernel
theorem dX4_takesShape_49 : decode cX4_takesShape 49 = .ok (.getfield 39, 3) := by decide +kernel
theorem dX4_takesShape_52 : decode cX4_takesShape 52 = .ok (.putfield 80, 3) := by decide +kernel
theorem dX4_takesShape_55 : decode cX4_takesShape 55 = .ok (.iconst 1, 1) := by decide +kernel
theorem dX4_takesShape_56 : decode cX4_takesShape 56 = .ok (.ireturn, 1) := by decide +kernel
def fX4_takesShape (t_first : Int32) (t_second : Int32) (t_stoneTold : Int32) (a1_rows : Int32) (a1_columns : Int32) : Option (Int32 × Int32 × Int32) :=
(if t_stoneTold = 0 then
(if t_first < ((1 : Int32)) then
(some ((0 : Int32), a1_rows, a1_columns))
else
(if t_second < ((1 : Int32)) then
(some ((0 : Int32), a1_rows, a1_columns))
else
(if (t_first * t_second) ≤ ((9 : Int32)) then
(some ((1 : Int32), t_first, t_second))
else
(some ((0 : Int32), a1_rows, a1_columns)))))
else
(some ((0 : Int32), a1_rows, a1_columns)))
def oX4_takesShape (D : jv_D) (h_t : Nat) (h_a1 : Nat) (h_a1_ruledOut : Nat) (t_at : Int32) (t_first : Int32) (t_second : Int32) (t_stoneTold : Int32) (t_paintTold : Int32) (a1_paints : Int32) (a1_apart : Int32) (a1_paintsOf0 : Int32) (a1_paintsOf1 : Int32) (a1_old : Int32) (a1_shut : Int32) (a1_all : Int32) (a1_firstColumn : Int32) (a1_fitsAtFirst : Int32) (a1_paintingsOf0 : Int32) (a1_paintingsOf1 : Int32) (r : Int32 × Int32 × Int32) : va_W := [(h_t, .inr (3, [.int t_at, .int t_first, .int t_second, .int t_stoneTold, .int t_paintTold])), (h_a1, .inr (2, [.int r.2.1, .int r.2.2, .int a1_paints, .int a1_apart, .int a1_paintsOf0, .int a1_paintsOf1, .int a1_old, .int a1_shut, .int a1_all, .int a1_firstColumn, .int a1_fitsAtFirst, .int a1_paintingsOf0, .int a1_paintingsOf1, .ref h_a1_ruledOut]))]
set_option maxHeartbeats 40000000 in
set_option maxRecDepth 100000 in
theorem mX4_takesShape (l : Launch) (D : jv_D) (h_t : Nat) (h_a1 : Nat) (h_a1_ruledOut : Nat) (t_at : Int32) (t_first : Int32) (t_second : Int32) (t_stoneTold : Int32) (t_paintTold : Int32) (a1_rows : Int32) (a1_columns : Int32) (a1_paints : Int32) (a1_apart : Int32) (a1_paintsOf0 : Int32) (a1_paintsOf1 : Int32) (a1_old : Int32) (a1_shut : Int32) (a1_all : Int32) (a1_firstColumn : Int32) (a1_fitsAtFirst : Int32) (a1_paintingsOf0 : Int32) (a1_paintingsOf1 : Int32) (r : Int32 × Int32 × Int32) (h : fX4_takesShape t_first t_second t_stoneTold a1_rows a1_columns = some r) : MM l yX4_takesShape (jW yX4_takesShape cX4_takesShape 2 (some .boolean)) ({ frames := 0, cells := 0, slots := 0, locals := 0 }) D [.ref h_t, .ref h_a1] [(h_t, .inr (3, [.int t_at, .int t_first, .int t_second, .int t_stoneTold, .int t_paintTold])), (h_a1, .inr (2, [.int a1_rows, .int a1_columns, .int a1_paints, .int a1_apart, .int a1_paintsOf0, .int a1_paintsOf1, .int a1_old, .int a1_shut, .int a1_all, .int a1_firstColumn, .int a1_fitsAtFirst, .int a1_paintingsOf0, .int a1_paintingsOf1, .ref h_a1_ruledOut]))] (some (.int r.1)) (oX4_takesShape D h_t h_a1 h_a1_ruledOut t_at t_first t_second t_stoneTold t_paintTold a1_paints a1_apart a1_paintsOf0 a1_paintsOf1 a1_old a1_shut a1_all a1_firstColumn a1_fitsAtFirst a1_paintingsOf0 a1_paintingsOf1 r) := by
  refine mn_of hpX4_takesShape (Nat.le_of_ble_eq_true rfl) ?_
  intro X hXl C E0 hN
  subst hXl
  replace C : JC D X 2 RX4 cX4_takesShape ({ frames := 0, cells := 0, slots := 0, locals := 0 }) := C
  have E : JE D X 0 0 (some .boolean) (fun _ : Unit => (some (.int r.1))) (fun _ : Unit => (oX4_takesShape D h_t h_a1 h_a1_ruledOut t_at t_first t_second t_stoneTold t_paintTold a1_paints a1_apart a1_paintsOf0 a1_paintsOf1 a1_old a1_shut a1_all a1_firstColumn a1_fitsAtFirst a1_paintingsOf0 a1_paintingsOf1 r)) := E0 0 0 rfl rfl
  clear E0 hN
  show JJ D X 2 0 0 0 [(0, .ref h_t), (1, .ref h_a1)] [] [(h_t, .inr (3, [.int t_at, .int t_first, .int t_second, .int t_stoneTold, .int t_paintTold])), (h_a1, .inr (2, [.int a1_rows, .int a1_columns, .int a1_paints, .int a1_apart, .int a1_paintsOf0, .int a1_paintsOf1, .int a1_old, .int a1_shut, .int a1_all, .int a1_firstColumn, .int a1_fitsAtFirst, .int a1_paintingsOf0, .int a1_paintingsOf1, .ref h_a1_ruledOut]))]
  unfold fX4_takesShape at h
  refine j_aload_n C dX4_takesShape_0 rfl 0 rfl ?_
  refine j_get C ibX4 (ci := 3) 0 rfl rfl 3 (by decide) bfX4_20 (v := .int t_stoneTold) rfl dX4_takesShape_1 ?_
  refine j_if_ne C (tgt := 37) dX4_takesShape_4 (by decide) h (fun c1 h => ?_) (fun c1 h => ?_)
  · refine j_aload_n C dX4_takesShape_7 rfl 0 rfl ?_
    refine j_get C ibX4 (ci := 3) 0 rfl rfl 1 (by decide) bfX4_46 (v := .int t_first) rfl dX4_takesShape_8 ?_
    refine j_iconst C dX4_takesShape_11 (v := (1 : Int32)) (by decide) ?_
    refine j_icmp_lt C (tgt := 37) dX4_takesShape_12 (by decide) h (fun c2 h => ?_) (fun c2 h => ?_)
    · refine j_iconst C dX4_takesShape_37 (v := (0 : Int32)) (by decide) ?_
      exact j_zretR C (r := r) (rtf := fun r => (some (.int r.1))) (wff := fun r => (oX4_takesShape D h_t h_a1 h_a1_ruledOut t_at t_first t_second t_stoneTold t_paintTold a1_paints a1_apart a1_paintsOf0 a1_paintsOf1 a1_old a1_shut a1_all a1_firstColumn a1_fitsAtFirst a1_paintingsOf0 a1_paintingsOf1 r)) E rfl h rfl rfl dX4_takesShape_38
    · refine j_aload_n C dX4_takesShape_15 rfl 0 rfl ?_
      refine j_get C ibX4 (ci := 3) 0 rfl rfl 2 (by decide) bfX4_39 (v := .int t_second) rfl dX4_takesShape_16 ?_
      refine j_iconst C dX4_takesShape_19 (v := (1 : Int32)) (by decide) ?_
      refine j_icmp_lt C (tgt := 37) dX4_takesShape_20 (by decide) h (fun c3 h => ?_) (fun c3 h => ?_)
      · refine j_iconst C dX4_takesShape_37 (v := (0 : Int32)) (by decide) ?_
        exact j_zretR C (r := r) (rtf := fun r => (some (.int r.1))) (wff := fun r => (oX4_takesShape D h_t h_a1 h_a1_ruledOut t_at t_first t_second t_stoneTold t_paintTold a1_paints a1_apart a1_paintsOf0 a1_paintsOf1 a1_old a1_shut a1_all a1_firstColumn a1_fitsAtFirst a1_paintingsOf0 a1_paintingsOf1 r)) E rfl h rfl rfl dX4_takesShape_38
      · refine j_aload_n C dX4_takesShape_23 rfl 0 rfl ?_
        refine j_get C ibX4 (ci := 3) 0 rfl rfl 1 (by decide) bfX4_46 (v := .int t_first) rfl dX4_takesShape_24 ?_
        refine j_aload_n C dX4_takesShape_27 rfl 0 rfl ?_
        refine j_get C ibX4 (ci := 3) 0 rfl rfl 2 (by decide) bfX4_39 (v := .int t_second) rfl dX4_takesShape_28 ?_
        refine j_imul C dX4_takesShape_31 ?_
        refine j_bipush C dX4_takesShape_32 (v := (9 : Int32)) (by decide) ?_
        refine j_icmp_le C (tgt := 39) dX4_takesShape_34 (by decide) h (fun c4 h => ?_) (fun c4 h => ?_)
        · refine j_aload_n C dX4_takesShape_39 rfl 1 rfl ?_
          refine j_aload_n C dX4_takesShape_40 rfl 0 rfl ?_
          refine j_get C ibX4 (ci := 3) 0 rfl rfl 1 (by decide) bfX4_46 (v := .int t_first) rfl dX4_takesShape_41 ?_
          refine j_putN C ibX3 tyX3 tyX3_ok nmX3 (host := "PaintersAtWall") (ci := 2) 1 rfl rfl 0 (by decide) (by decide +kernel) rfl rfl rfl (Nat.le_of_ble_eq_true rfl) dX4_takesShape_44 (ws' := [(h_t, .inr (3, [.int t_at, .int t_first, .int t_second, .int t_stoneTold, .int t_paintTold])), (h_a1, .inr (2, [.int t_first, .int a1_columns, .int a1_paints, .int a1_apart, .int a1_paintsOf0, .int a1_paintsOf1, .int a1_old, .int a1_shut, .int a1_all, .int a1_firstColumn, .int a1_fitsAtFirst, .int a1_paintingsOf0, .int a1_paintingsOf1, .ref h_a1_ruledOut]))]) rfl ?_
          refine j_aload_n C dX4_takesShape_47 rfl 1 rfl ?_
          refine j_aload_n C dX4_takesShape_48 rfl 0 rfl ?_
          refine j_get C ibX4 (ci := 3) 0 rfl rfl 2 (by decide) bfX4_39 (v := .int t_second) rfl dX4_takesShape_49 ?_
          refine j_putN C ibX3 tyX3 tyX3_ok nmX3 (host := "PaintersAtWall") (ci := 2) 1 rfl rfl 1 (by decide) (by decide +kernel) rfl rfl rfl (Nat.le_of_ble_eq_true rfl) dX4_takesShape_52 (ws' := [(h_t, .inr (3, [.int t_at, .int t_first, .int t_second, .int t_stoneTold, .int t_paintTold])), (h_a1, .inr (2, [.int t_first, .int t_second, .int a1_paints, .int a1_apart, .int a1_paintsOf0, .int a1_paintsOf1, .int a1_old, .int a1_shut, .int a1_all, .int a1_firstColumn, .int a1_fitsAtFirst, .int a1_paintingsOf0, .int a1_paintingsOf1, .ref h_a1_ruledOut]))]) rfl ?_
          refine j_iconst C dX4_takesShape_55 (v := (1 : Int32)) (by decide) ?_
          exact j_zretR C (r := r) (rtf := fun r => (some (.int r.1))) (wff := fun r => (oX4_takesShape D h_t h_a1 h_a1_ruledOut t_at t_first t_second t_stoneTold t_paintTold a1_paints a1_apart a1_paintsOf0 a1_paintsOf1 a1_old a1_shut a1_all a1_firstColumn a1_fitsAtFirst a1_paintingsOf0 a1_paintingsOf1 r)) E rfl h rfl rfl dX4_takesShape_56
        · refine j_iconst C dX4_takesShape_37 (v := (0 : Int32)) (by decide) ?_
          exact j_zretR C (r := r) (rtf := fun r => (some (.int r.1))) (wff := fun r => (oX4_takesShape D h_t h_a1 h_a1_ruledOut t_at t_first t_second t_stoneTold t_paintTold a1_paints a1_apart a1_paintsOf0 a1_paintsOf1 a1_old a1_shut a1_all a1_firstColumn a1_fitsAtFirst a1_paintingsOf0 a1_paintingsOf1 r)) E rfl h rfl rfl dX4_takesShape_38
  · refine j_iconst C dX4_takesShape_37 (v := (0 : Int32)) (by decide) ?_
    exact j_zretR C (r := r) (rtf := fun r => (some (.int r.1))) (wff := fun r => (oX4_takesShape D h_t h_a1 h_a1_ruledOut t_at t_first t_second t_stoneTold t_paintTold a1_paints a1_apart a1_paintsOf0 a1_paintsOf1 a1_old a1_shut a1_all a1_firstColumn a1_fitsAtFirst a1_paintingsOf0 a1_paintingsOf1 r)) E rfl h rfl rfl dX4_takesShape_38
theorem dX4_takesPaints_0 : decode cX4_takesPaints 0 = .ok (.aload_n 0, 1) := by decide +kernel
theorem dX4_takesPaints_1 : decode cX4_takesPaints 1 = .ok (.getfield 24, 3) := by decide +kernel
theorem dX4_takesPaints_4 : decode cX4_takesPaints 4 = .ok (.ifCond .ne 19, 3) := by decide +kernel
theorem dX4_takesPaints_7 : decode cX4_takesPaints 7 = .ok (.aload_n 0, 1) := by decide +kernel
theorem dX4_takesPaints_8 : decode cX4_takesPaints 8 = .ok (.getfield 46, 3) := by decide +kernel
theorem dX4_takesPaints_11 : decode cX4_takesPaints 11 = .ok (.iconst 1, 1) := by decide +kernel
theorem dX4_takesPaints_12 : decode cX4_takesPaints 12 = .ok (.if_icmp .lt 11, 3) := by decide +kernel
theorem dX4_takesPaints_15 : decode cX4_takesPaints 15 = .ok (.aload_n 0, 1) := by decide +kernel
theorem dX4_takesPaints_16 : decode cX4_takesPaints 16 = .ok (.getfield 46, 3) := by decide +kernel
theorem dX4_takesPaints_19 : decode cX4_takesPaints 19 = .ok (.iconst 3, 1) := by decide +kernel
theorem dX4_takesPaints_20 : decode cX4_takesPaints 20 = .ok (.if_icmp .le 5, 3) := by decide +kernel
theorem dX4_takesPaints_23 : decode cX4_takesPaints 23 = .ok (.iconst 0, 1) := by decide +kernel
theorem dX4_takesPaints_24 : decode cX4_takesPaints 24 = .ok (.ireturn, 1) := by decide +kernel
theorem dX4_takesPaints_25 : decode cX4_takesPaints 25 = .ok (.aload_n 1, 1) := by decide +kernel
theorem dX4_takesPaints_26 : decode cX4_takesPaints 26 = .ok (.aload_n 0, 1) := by decide +kernel
theorem dX4_takesPaints_27 : decode cX4_takesPaints 27 = .ok (.getfield 46, 3) := by decide +kernel
theorem dX4_takesPaints_30 : decode cX4_takesPaints 30 = .ok (.putfield 83, 3) := by decide +kernel
theorem dX4_takesPaints_33 : decode cX4_takesPaints 33 = .ok (.iconst 1, 1) := by decide +kernel
theorem dX4_takesPaints_34 : decode cX4_takesPaints 34 = .ok (.ireturn, 1) := by decide +kernel
def fX4_takesPaints (t_first : Int32) (t_paintTold : Int32) (a1_paints : Int32) : Option (Int32 × Int32) :=
(if t_paintTold = 0 then
(if t_first < ((1 : Int32)) then
(some ((0 : Int32), a1_paints))
else
(if t_first ≤ ((3 : Int32)) then
(some ((1 : Int32), t_first))
else
(some ((0 : Int32), a1_paints))))
else
(some ((0 : Int32), a1_paints)))
def oX4_takesPaints (D : jv_D) (h_t : Nat) (h_a1 : Nat) (h_a1_ruledOut : Nat) (t_at : Int32) (t_first : Int32) (t_second : Int32) (t_stoneTold : Int32) (t_paintTold : Int32) (a1_rows : Int32) (a1_columns : Int32) (a1_apart : Int32) (a1_paintsOf0 : Int32) (a1_paintsOf1 : Int32) (a1_old : Int32) (a1_shut : Int32) (a1_all : Int32) (a1_firstColumn : Int32) (a1_fitsAtFirst : Int32) (a1_paintingsOf0 : Int32) (a1_paintingsOf1 : Int32) (r : Int32 × Int32) : va_W := [(h_t, .inr (3, [.int t_at, .int t_first, .int t_second, .int t_stoneTold, .int t_paintTold])), (h_a1, .inr (2, [.int a1_rows, .int a1_columns, .int r.2, .int a1_apart, .int a1_paintsOf0, .int a1_paintsOf1, .int a1_old, .int a1_shut, .int a1_all, .int a1_firstColumn, .int a1_fitsAtFirst, .int a1_paintingsOf0, .int a1_paintingsOf1, .ref h_a1_ruledOut]))]
set_option maxHeartbeats 40000000 in
set_option maxRecDepth 100000 in
theorem mX4_takesPaints (l : Launch) (D : jv_D) (h_t : Nat) (h_a1 : Nat) (h_a1_ruledOut : Nat) (t_at : Int32) (t_first : Int32) (t_second : Int32) (t_stoneTold : Int32) (t_paintTold : Int32) (a1_rows : Int32) (a1_columns : Int32) (a1_paints : Int32) (a1_apart : Int32) (a1_paintsOf0 : Int32) (a1_paintsOf1 : Int32) (a1_old : Int32) (a1_shut : Int32) (a1_all : Int32) (a1_firstColumn : Int32) (a1_fitsAtFirst : Int32) (a1_paintingsOf0 : Int32) (a1_paintingsOf1 : Int32) (r : Int32 × Int32) (h : fX4_takesPaints t_first t_paintTold a1_paints = some r) : MM l yX4_takesPaints (jW yX4_takesPaints cX4_takesPaints 2 (some .boolean)) ({ frames := 0, cells := 0, slots := 0, locals := 0 }) D [.ref h_t, .ref h_a1] [(h_t, .inr (3, [.int t_at, .int t_first, .int t_second, .int t_stoneTold, .int t_paintTold])), (h_a1, .inr (2, [.int a1_rows, .int a1_columns, .int a1_paints, .int a1_apart, .int a1_paintsOf0, .int a1_paintsOf1, .int a1_old, .int a1_shut, .int a1_all, .int a1_firstColumn, .int a1_fitsAtFirst, .int a1_paintingsOf0, .int a1_paintingsOf1, .ref h_a1_ruledOut]))] (some (.int r.1)) (oX4_takesPaints D h_t h_a1 h_a1_ruledOut t_at t_first t_second t_stoneTold t_paintTold a1_rows a1_columns a1_apart a1_paintsOf0 a1_paintsOf1 a1_old a1_shut a1_all a1_firstColumn a1_fitsAtFirst a1_paintingsOf0 a1_paintingsOf1 r) := by
  refine mn_of hpX4_takesPaints (Nat.le_of_ble_eq_true rfl) ?_
  intro X hXl C E0 hN
  subst hXl
  replace C : JC D X 2 RX4 cX4_takesPaints ({ frames := 0, cells := 0, slots := 0, locals := 0 }) := C
  have E : JE D X 0 0 (some .boolean) (fun _ : Unit => (some (.int r.1))) (fun _ : Unit => (oX4_takesPaints D h_t h_a1 h_a1_ruledOut t_at t_first t_second t_stoneTold t_paintTold a1_rows a1_columns a1_apart a1_paintsOf0 a1_paintsOf1 a1_old a1_shut a1_all a1_firstColumn a1_fitsAtFirst a1_paintingsOf0 a1_paintingsOf1 r)) := E0 0 0 rfl rfl
  clear E0 hN
  show JJ D X 2 0 0 0 [(0, .ref h_t), (1, .ref h_a1)] [] [(h_t, .inr (3, [.int t_at, .int t_first, .int t_second, .int t_stoneTold, .int t_paintTold])), (h_a1, .inr (2, [.int a1_rows, .int a1_columns, .int a1_paints, .int a1_apart, .int a1_paintsOf0, .int a1_paintsOf1, .int a1_old, .int a1_shut, .int a1_all, .int a1_firstColumn, .int a1_fitsAtFirst, .int a1_paintingsOf0, .int a1_paintingsOf1, .ref h_a1_ruledOut]))]
  unfold fX4_takesPaints at h
  refine j_aload_n C dX4_takesPaints_0 rfl 0 rfl ?_
  refine j_get C ibX4 (ci := 3) 0 rfl rfl 4 (by decide) bfX4_24 (v := .int t_paintTold) rfl dX4_takesPaints_1 ?_
  refine j_if_ne C (tgt := 23) dX4_takesPaints_4 (by decide) h (fun c1 h => ?_) (fun c1 h => ?_)
  · refine j_aload_n C dX4_takesPaints_7 rfl 0 rfl ?_
    refine j_get C ibX4 (ci := 3) 0 rfl rfl 1 (by decide) bfX4_46 (v := .int t_first) rfl dX4_takesPaints_8 ?_
    refine j_iconst C dX4_takesPaints_11 (v := (1 : Int32)) (by decide) ?_
    refine j_icmp_lt C (tgt := 23) dX4_takesPaints_12 (by decide) h (fun c2 h => ?_) (fun c2 h => ?_)
    · refine j_iconst C dX4_takesPaints_23 (v := (0 : Int32)) (by decide) ?_
      exact j_zretR C (r := r) (rtf := fun r => (some (.int r.1))) (wff := fun r => (oX4_takesPaints D h_t h_a1 h_a1_ruledOut t_at t_first t_second t_stoneTold t_paintTold a1_rows a1_columns a1_apart a1_paintsOf0 a1_paintsOf1 a1_old a1_shut a1_all a1_firstColumn a1_fitsAtFirst a1_paintingsOf0 a1_paintingsOf1 r)) E rfl h rfl rfl dX4_takesPaints_24
    · refine j_aload_n C dX4_takesPaints_15 rfl 0 rfl ?_
      refine j_get C ibX4 (ci := 3) 0 rfl rfl 1 (by decide) bfX4_46 (v := .int t_first) rfl dX4_takesPaints_16 ?_
      refine j_iconst C dX4_takesPaints_19 (v := (3 : Int32)) (by decide) ?_
      refine j_icmp_le C (tgt := 25) dX4_takesPaints_20 (by decide) h (fun c3 h => ?_) (fun c3 h => ?_)
      · refine j_aload_n C dX4_takesPaints_25 rfl 1 rfl ?_
        refine j_aload_n C dX4_takesPaints_26 rfl 0 rfl ?_
        refine j_get C ibX4 (ci := 3) 0 rfl rfl 1 (by decide) bfX4_46 (v := .int t_first) rfl dX4_takesPaints_27 ?_
        refine j_putN C ibX3 tyX3 tyX3_ok nmX3 (host := "PaintersAtWall") (ci := 2) 1 rfl rfl 2 (by decide) (by decide +kernel) rfl rfl rfl (Nat.le_of_ble_eq_true rfl) dX4_takesPaints_30 (ws' := [(h_t, .inr (3, [.int t_at, .int t_first, .int t_second, .int t_stoneTold, .int t_paintTold])), (h_a1, .inr (2, [.int a1_rows, .int a1_columns, .int t_first, .int a1_apart, .int a1_paintsOf0, .int a1_paintsOf1, .int a1_old, .int a1_shut, .int a1_all, .int a1_firstColumn, .int a1_fitsAtFirst, .int a1_paintingsOf0, .int a1_paintingsOf1, .ref h_a1_ruledOut]))]) rfl ?_
        refine j_iconst C dX4_takesPaints_33 (v := (1 : Int32)) (by decide) ?_
        exact j_zretR C (r := r) (rtf := fun r => (some (.int r.1))) (wff := fun r => (oX4_takesPaints D h_t h_a1 h_a1_ruledOut t_at t_first t_second t_stoneTold t_paintTold a1_rows a1_columns a1_apart a1_paintsOf0 a1_paintsOf1 a1_old a1_shut a1_all a1_firstColumn a1_fitsAtFirst a1_paintingsOf0 a1_paintingsOf1 r)) E rfl h rfl rfl dX4_takesPaints_34
      · refine j_iconst C dX4_takesPaints_23 (v := (0 : Int32)) (by decide) ?_
        exact j_zretR C (r := r) (rtf := fun r => (some (.int r.1))) (wff := fun r => (oX4_takesPaints D h_t h_a1 h_a1_ruledOut t_at t_first t_second t_stoneTold t_paintTold a1_rows a1_columns a1_apart a1_paintsOf0 a1_paintsOf1 a1_old a1_shut a1_all a1_firstColumn a1_fitsAtFirst a1_paintingsOf0 a1_paintingsOf1 r)) E rfl h rfl rfl dX4_takesPaints_24
  · refine j_iconst C dX4_takesPaints_23 (v := (0 : Int32)) (by decide) ?_
    exact j_zretR C (r := r) (rtf := fun r => (some (.int r.1))) (wff := fun r => (oX4_takesPaints D h_t h_a1 h_a1_ruledOut t_at t_first t_second t_stoneTold t_paintTold a1_rows a1_columns a1_apart a1_paintsOf0 a1_paintsOf1 a1_old a1_shut a1_all a1_firstColumn a1_fitsAtFirst a1_paintingsOf0 a1_paintingsOf1 r)) E rfl h rfl rfl dX4_takesPaints_24
theorem dX4_takesPainter_0 : decode cX4_takesPainter 0 = .ok (.aload_n 0, 1) := by decide +kernel
theorem dX4_takesPainter_1 : decode cX4_takesPainter 1 = .ok (.getfield 46, 3) := by decide +kernel
theorem dX4_takesPainter_4 : decode cX4_takesPainter 4 = .ok (.invokestatic 96, 3) := by decide +kernel
theorem dX4_takesPainter_7 : decode cX4_takesPainter 7 = .ok (.ifCond .eq 17, 3) := by decide +kernel
theorem dX4_takesPainter_10 : decode cX4_takesPainter 10 = .ok (.aload_n 0, 1) := by decide +kernel
theorem dX4_takesPainter_11 : decode cX4_takesPainter 11 = .ok (.getfield 39, 3) := by decide +kernel
theorem dX4_takesPainter_14 : decode cX4_takesPainter 14 = .ok (.aload_n 1, 1) := by decide +kernel
theorem dX4_takesPainter_15 : decode cX4_takesPainter 15 = .ok (.invokevirtual 99, 3) := by decide +kernel
theorem dX4_takesPainter_18 : decode cX4_takesPainter 18 = .ok (.iconst (-1), 1) := by decide +kernel
theorem dX4_takesPainter_19 : decode cX4_takesPainter 19 = .ok (.ixor, 1) := by decide +kernel
theorem dX4_takesPainter_20 : decode cX4_takesPainter 20 = .ok (.iand, 1) := by decide +kernel
theorem dX4_takesPainter_21 : decode cX4_takesPainter 21 = .ok (.ifCond .eq 5, 3) := by decide +kernel
theorem dX4_takesPainter_24 : decode cX4_takesPainter 24 = .ok (.iconst 0, 1) := by decide +kernel
theorem dX4_takesPainter_25 : decode cX4_takesPainter 25 = .ok (.ireturn, 1) := by decide +kernel
theorem dX4_takesPainter_26 : decode cX4_takesPainter 26 = .ok (.aload_n 0, 1) := by decide +kernel
theorem dX4_takesPainter_27 : decode cX4_takesPainter 27 = .ok (.getfield 46, 3) := by decide +kernel
theorem dX4_takesPainter_30 : decode cX4_takesPainter 30 = .ok (.ifCond .ne 14, 3) := by decide +kernel
theorem dX4_takesPainter_33 : decode cX4_takesPainter 33 = .ok (.aload_n 1, 1) := by decide +kernel
theorem dX4_takesPainter_34 : decode cX4_takesPainter 34 = .ok (.aload_n 0, 1) := by decide +kernel
theorem dX4_takesPainter_35 : decode cX4_takesPainter 35 = .ok (.getfield 39, 3) := by decide +kernel
theorem dX4_takesPainter_38 : decode cX4_takesPainter 38 = .ok (.putfield 103, 3) := by decide +kernel
theorem dX4_takesPainter_41 : decode cX4_takesPainter 41 = .ok (.goto 11, 3) := by decide +kernel
theorem dX4_takesPainter_44 : decode cX4_takesPainter 44 = .ok (.aload_n 1, 1) := by decide +kernel
theorem dX4_takesPainter_45 : decode cX4_takesPainter 45 = .ok (.aload_n 0, 1) := by decide +kernel
theorem dX4_takesPainter_46 : decode cX4_takesPainter 46 = .ok (.getfield 39, 3) := by decide +kernel
theorem dX4_takesPainter_49 : decode cX4_takesPainter 49 = .ok (.putfield 106, 3) := by decide +kernel
theorem dX4_takesPainter_52 : decode cX4_takesPainter 52 = .ok (.aload_n 0, 1) := by decide +kernel
theorem dX4_takesPainter_53 : decode cX4_takesPainter 53 = .ok (.iconst 1, 1) := by decide +kernel
theorem dX4_takesPainter_54 : decode cX4_takesPainter 54 = .ok (.putfield 24, 3) := by decide +kernel
theorem dX4_takesPainter_57 : decode cX4_takesPainter 57 = .ok (.iconst 1, 1) := by decide +kernel
theorem dX4_takesPainter_58 : decode cX4_takesPainter 58 = .ok (.ireturn, 1) := by decide +kernel
def fX4_takesPainter_52 (t_first : Int32) (t_second : Int32) (a1_paints : Int32)  (m_t_paintTold_8 : Int32) (m_a1_paintsOf0_9 : Int32) (m_a1_paintsOf1_10 : Int32) : Option (Int32 × Int32 × Int32 × Int32) :=
(some ((1 : Int32), (1 : Int32), m_a1_paintsOf0_9, m_a1_paintsOf1_10))
def fX4_takesPainter (t_first : Int32) (t_second : Int32) (t_paintTold : Int32) (a1_paints : Int32) (a1_paintsOf0 : Int32) (a1_paintsOf1 : Int32) : Option (Int32 × Int32 × Int32 × Int32) :=
((fX9_isPainter t_first).bind fun r1 =>
(if r1 = 0 then
(some ((0 : Int32), t_paintTold, a1_paintsOf0, a1_paintsOf1))
else
((fX3_allPaints a1_paints).bind fun r4 =>
(if (t_second &&& (r4 ^^^ ((-1 : Int32)))) = 0 then
(if t_first = 0 then
(fX4_takesPainter_52 t_first t_second a1_paints t_paintTold t_second a1_paintsOf1)
else
(fX4_takesPainter_52 t_first t_second a1_paints t_paintTold a1_paintsOf0 t_second))
else
(some ((0 : Int32), t_paintTold, a1_paintsOf0, a1_paintsOf1))))))
def oX4_takesPainter (D : jv_D) (h_t : Nat) (h_a1 : Nat) (h_a1_ruledOut : Nat) (t_at : Int32) (t_first : Int32) (t_second : Int32) (t_stoneTold : Int32) (a1_rows : Int32) (a1_columns : Int32) (a1_paints : Int32) (a1_apart : Int32) (a1_old : Int32) (a1_shut : Int32) (a1_all : Int32) (a1_firstColumn : Int32) (a1_fitsAtFirst : Int32) (a1_paintingsOf0 : Int32) (a1_paintingsOf1 : Int32) (r : Int32 × Int32 × Int32 × Int32) : va_W := [(h_t, .inr (3, [.int t_at, .int t_first, .int t_second, .int t_stoneTold, .int r.2.1])), (h_a1, .inr (2, [.int a1_rows, .int a1_columns, .int a1_paints, .int a1_apart, .int r.2.2.1, .int r.2.2.2, .int a1_old, .int a1_shut, .int a1_all, .int a1_firstColumn, .int a1_fitsAtFirst, .int a1_paintingsOf0, .int a1_paintingsOf1, .ref h_a1_ruledOut]))]
set_option maxHeartbeats 40000000 in
set_option maxRecDepth 100000 in
theorem mX4_takesPainter (l : Launch) (D : jv_D) (h_t : Nat) (h_a1 : Nat) (h_a1_ruledOut : Nat) (t_at : Int32) (t_first : Int32) (t_second : Int32) (t_stoneTold : Int32) (t_paintTold : Int32) (a1_rows : Int32) (a1_columns : Int32) (a1_paints : Int32) (a1_apart : Int32) (a1_paintsOf0 : Int32) (a1_paintsOf1 : Int32) (a1_old : Int32) (a1_shut : Int32) (a1_all : Int32) (a1_firstColumn : Int32) (a1_fitsAtFirst : Int32) (a1_paintingsOf0 : Int32) (a1_paintingsOf1 : Int32) (r : Int32 × Int32 × Int32 × Int32) (h : fX4_takesPainter t_first t_second t_paintTold a1_paints a1_paintsOf0 a1_paintsOf1 = some r) : MM l yX4_takesPainter (jW yX4_takesPainter cX4_takesPainter 2 (some .boolean)) ({ frames := 1, cells := 0, slots := 0, locals := 20 }) D [.ref h_t, .ref h_a1] [(h_t, .inr (3, [.int t_at, .int t_first, .int t_second, .int t_stoneTold, .int t_paintTold])), (h_a1, .inr (2, [.int a1_rows, .int a1_columns, .int a1_paints, .int a1_apart, .int a1_paintsOf0, .int a1_paintsOf1, .int a1_old, .int a1_shut, .int a1_all, .int a1_firstColumn, .int a1_fitsAtFirst, .int a1_paintingsOf0, .int a1_paintingsOf1, .ref h_a1_ruledOut]))] (some (.int r.1)) (oX4_takesPainter D h_t h_a1 h_a1_ruledOut t_at t_first t_second t_stoneTold a1_rows a1_columns a1_paints a1_apart a1_old a1_shut a1_all a1_firstColumn a1_fitsAtFirst a1_paintingsOf0 a1_paintingsOf1 r) := by
  refine mn_of hpX4_takesPainter (Nat.le_of_ble_eq_true rfl) ?_
  intro X hXl C E0 hN
  subst hXl
  replace C : JC D X 2 RX4 cX4_takesPainter ({ frames := 1, cells := 0, slots := 0, locals := 20 }) := C
  have E : JE D X 0 0 (some .boolean) (fun _ : Unit => (some (.int r.1))) (fun _ : Unit => (oX4_takesPainter D h_t h_a1 h_a1_ruledOut t_at t_first t_second t_stoneTold a1_rows a1_columns a1_paints a1_apart a1_old a1_shut a1_all a1_firstColumn a1_fitsAtFirst a1_paintingsOf0 a1_paintingsOf1 r)) := E0 0 0 rfl rfl
  clear E0 hN
  show JJ D X 2 0 0 0 [(0, .ref h_t), (1, .ref h_a1)] [] [(h_t, .inr (3, [.int t_at, .int t_first, .int t_second, .int t_stoneTold, .int t_paintTold])), (h_a1, .inr (2, [.int a1_rows, .int a1_columns, .int a1_paints, .int a1_apart, .int a1_paintsOf0, .int a1_paintsOf1, .int a1_old, .int a1_shut, .int a1_all, .int a1_firstColumn, .int a1_fitsAtFirst, .int a1_paintingsOf0, .int a1_paintingsOf1, .ref h_a1_ruledOut]))]
  unfold fX4_takesPainter at h
  have L52 : ∀ (m_t_paintTold_8 : Int32) (m_a1_paintsOf0_9 : Int32) (m_a1_paintsOf1_10 : Int32), fX4_takesPainter_52 t_first t_second a1_paints  m_t_paintTold_8 m_a1_paintsOf0_9 m_a1_paintsOf1_10 = some r → JJ D X 2 0 0 52 [(0, .ref h_t)] [] [(h_t, .inr (3, [.int t_at, .int t_first, .int t_second, .int t_stoneTold, .int m_t_paintTold_8])), (h_a1, .inr (2, [.int a1_rows, .int a1_columns, .int a1_paints, .int a1_apart, .int m_a1_paintsOf0_9, .int m_a1_paintsOf1_10, .int a1_old, .int a1_shut, .int a1_all, .int a1_firstColumn, .int a1_fitsAtFirst, .int a1_paintingsOf0, .int a1_paintingsOf1, .ref h_a1_ruledOut]))] := by
    intro m_t_paintTold_8 m_a1_paintsOf0_9 m_a1_paintsOf1_10 h
    unfold fX4_takesPainter_52 at h
    refine j_aload_n C dX4_takesPainter_52 rfl 0 rfl ?_
    refine j_iconst C dX4_takesPainter_53 (v := (1 : Int32)) (by decide) ?_
    refine j_put C ibX4 tyX4 tyX4_ok nmX4 (ci := 3) 0 rfl rfl 4 (by decide) bfX4_24 rfl rfl rfl (Nat.le_of_ble_eq_true rfl) dX4_takesPainter_54 (ws' := [(h_t, .inr (3, [.int t_at, .int t_first, .int t_second, .int t_stoneTold, .int ((1 : Int32))])), (h_a1, .inr (2, [.int a1_rows, .int a1_columns, .int a1_paints, .int a1_apart, .int m_a1_paintsOf0_9, .int m_a1_paintsOf1_10, .int a1_old, .int a1_shut, .int a1_all, .int a1_firstColumn, .int a1_fitsAtFirst, .int a1_paintingsOf0, .int a1_paintingsOf1, .ref h_a1_ruledOut]))]) rfl ?_
    refine j_iconst C dX4_takesPainter_57 (v := (1 : Int32)) (by decide) ?_
    exact j_zretR C (r := r) (rtf := fun r => (some (.int r.1))) (wff := fun r => (oX4_takesPainter D h_t h_a1 h_a1_ruledOut t_at t_first t_second t_stoneTold a1_rows a1_columns a1_paints a1_apart a1_old a1_shut a1_all a1_firstColumn a1_fitsAtFirst a1_paintingsOf0 a1_paintingsOf1 r)) E rfl h rfl rfl dX4_takesPainter_58
  refine j_aload_n C dX4_takesPainter_0 rfl 0 rfl ?_
  refine j_get C ibX4 (ci := 3) 0 rfl rfl 1 (by decide) bfX4_46 (v := .int t_first) rfl dX4_takesPainter_1 ?_
  obtain ⟨r1, q2, h⟩ := jl_bind h
  refine j_cSN1 C (mX9_isPainter (jlaunch X) D t_first r1 q2) (host := "PaintersAtWall") (by decide +kernel) btX9_isPainter bzX9 bcX9_isPainter hX9_isPainter (rest := []) rfl (jroom_of rfl) [] [0, 1] [0, 1] (wr := [(h_t, .inr (3, [.int t_at, .int t_first, .int t_second, .int t_stoneTold, .int t_paintTold])), (h_a1, .inr (2, [.int a1_rows, .int a1_columns, .int a1_paints, .int a1_apart, .int a1_paintsOf0, .int a1_paintsOf1, .int a1_old, .int a1_shut, .int a1_all, .int a1_firstColumn, .int a1_fitsAtFirst, .int a1_paintingsOf0, .int a1_paintingsOf1, .ref h_a1_ruledOut]))]) (ws2 := [(h_t, .inr (3, [.int t_at, .int t_first, .int t_second, .int t_stoneTold, .int t_paintTold])), (h_a1, .inr (2, [.int a1_rows, .int a1_columns, .int a1_paints, .int a1_apart, .int a1_paintsOf0, .int a1_paintsOf1, .int a1_old, .int a1_shut, .int a1_all, .int a1_firstColumn, .int a1_fitsAtFirst, .int a1_paintingsOf0, .int a1_paintingsOf1, .ref h_a1_ruledOut]))]) rfl rfl rfl rfl rfl (Nat.le_of_ble_eq_true rfl) dX4_takesPainter_4 ?_
  refine j_if_eq C (tgt := 24) dX4_takesPainter_7 (by decide) h (fun c3 h => ?_) (fun c3 h => ?_)
  · refine j_iconst C dX4_takesPainter_24 (v := (0 : Int32)) (by decide) ?_
    exact j_zretR C (r := r) (rtf := fun r => (some (.int r.1))) (wff := fun r => (oX4_takesPainter D h_t h_a1 h_a1_ruledOut t_at t_first t_second t_stoneTold a1_rows a1_columns a1_paints a1_apart a1_old a1_shut a1_all a1_firstColumn a1_fitsAtFirst a1_paintingsOf0 a1_paintingsOf1 r)) E rfl h rfl rfl dX4_takesPainter_25
  · refine j_aload_n C dX4_takesPainter_10 rfl 0 rfl ?_
    refine j_get C ibX4 (ci := 3) 0 rfl rfl 2 (by decide) bfX4_39 (v := .int t_second) rfl dX4_takesPainter_11 ?_
    refine j_aload_n C dX4_takesPainter_14 rfl 1 rfl ?_
    obtain ⟨r4, q5, h⟩ := jl_bind h
    refine j_cV1 C (mX3_allPaints (jlaunch X) D h_a1 h_a1_ruledOut a1_rows a1_columns a1_paints a1_apart a1_paintsOf0 a1_paintsOf1 a1_old a1_shut a1_all a1_firstColumn a1_fitsAtFirst a1_paintingsOf0 a1_paintingsOf1 r4 q5) bmX4_99 biX3_allPaints bsX3_allPaints bzX3 bcX3_allPaints rfl hX3_allPaints (rest := [.int t_second]) rfl (jroom_of rfl) 0 (ci := 2) rfl rfl rfl [1] [0] [0, 1] (wr := [(h_t, .inr (3, [.int t_at, .int t_first, .int t_second, .int t_stoneTold, .int t_paintTold]))]) (ws2 := [(h_t, .inr (3, [.int t_at, .int t_first, .int t_second, .int t_stoneTold, .int t_paintTold])), (h_a1, .inr (2, [.int a1_rows, .int a1_columns, .int a1_paints, .int a1_apart, .int a1_paintsOf0, .int a1_paintsOf1, .int a1_old, .int a1_shut, .int a1_all, .int a1_firstColumn, .int a1_fitsAtFirst, .int a1_paintingsOf0, .int a1_paintingsOf1, .ref h_a1_ruledOut]))]) rfl rfl rfl rfl rfl (Nat.le_of_ble_eq_true rfl) dX4_takesPainter_15 ?_
    refine j_iconst C dX4_takesPainter_18 (v := (-1 : Int32)) (by decide) ?_
    refine j_ixor C dX4_takesPainter_19 ?_
    refine j_iand C dX4_takesPainter_20 ?_
    refine j_if_eq C (tgt := 26) dX4_takesPainter_21 (by decide) h (fun c6 h => ?_) (fun c6 h => ?_)
    · refine j_aload_n C dX4_takesPainter_26 rfl 0 rfl ?_
      refine j_get C ibX4 (ci := 3) 0 rfl rfl 1 (by decide) bfX4_46 (v := .int t_first) rfl dX4_takesPainter_27 ?_
      refine j_if_ne C (tgt := 44) dX4_takesPainter_30 (by decide) h (fun c7 h => ?_) (fun c7 h => ?_)
      · refine j_aload_n C dX4_takesPainter_33 rfl 1 rfl ?_
        refine j_aload_n C dX4_takesPainter_34 rfl 0 rfl ?_
        refine j_get C ibX4 (ci := 3) 0 rfl rfl 2 (by decide) bfX4_39 (v := .int t_second) rfl dX4_takesPainter_35 ?_
        refine j_putN C ibX3 tyX3 tyX3_ok nmX3 (host := "PaintersAtWall") (ci := 2) 1 rfl rfl 4 (by decide) (by decide +kernel) rfl rfl rfl (Nat.le_of_ble_eq_true rfl) dX4_takesPainter_38 (ws' := [(h_t, .inr (3, [.int t_at, .int t_first, .int t_second, .int t_stoneTold, .int t_paintTold])), (h_a1, .inr (2, [.int a1_rows, .int a1_columns, .int a1_paints, .int a1_apart, .int t_second, .int a1_paintsOf1, .int a1_old, .int a1_shut, .int a1_all, .int a1_firstColumn, .int a1_fitsAtFirst, .int a1_paintingsOf0, .int a1_paintingsOf1, .ref h_a1_ruledOut]))]) rfl ?_
        refine j_goto C dX4_takesPainter_41 (tgt := 52) (by decide) ?_
        refine j_sub (lv' := [(0, .ref h_t)]) [0] rfl ?_
        exact L52 t_paintTold t_second a1_paintsOf1 h
      · refine j_aload_n C dX4_takesPainter_44 rfl 1 rfl ?_
        refine j_aload_n C dX4_takesPainter_45 rfl 0 rfl ?_
        refine j_get C ibX4 (ci := 3) 0 rfl rfl 2 (by decide) bfX4_39 (v := .int t_second) rfl dX4_takesPainter_46 ?_
        refine j_putN C ibX3 tyX3 tyX3_ok nmX3 (host := "PaintersAtWall") (ci := 2) 1 rfl rfl 5 (by decide) (by decide +kernel) rfl rfl rfl (Nat.le_of_ble_eq_true rfl) dX4_takesPainter_49 (ws' := [(h_t, .inr (3, [.int t_at, .int t_first, .int t_second, .int t_stoneTold, .int t_paintTold])), (h_a1, .inr (2, [.int a1_rows, .int a1_columns, .int a1_paints, .int a1_apart, .int a1_paintsOf0, .int t_second, .int a1_old, .int a1_shut, .int a1_all, .int a1_firstColumn, .int a1_fitsAtFirst, .int a1_paintingsOf0, .int a1_paintingsOf1, .ref h_a1_ruledOut]))]) rfl ?_
        refine j_sub (lv' := [(0, .ref h_t)]) [0] rfl ?_
        exact L52 t_paintTold a1_paintsOf0 t_second h
    · refine j_iconst C dX4_takesPainter_24 (v := (0 : Int32)) (by decide) ?_
      exact j_zretR C (r := r) (rtf := fun r => (some (.int r.1))) (wff := fun r => (oX4_takesPainter D h_t h_a1 h_a1_ruledOut t_at t_first t_second t_stoneTold a1_rows a1_columns a1_paints a1_apart a1_old a1_shut a1_all a1_firstColumn a1_fitsAtFirst a1_paintingsOf0 a1_paintingsOf1 r)) E rfl h rfl rfl dX4_takesPainter_25
theorem dX4_takesOld_0 : decode cX4_takesOld 0 = .ok (.aload_n 1, 1) := by decide +kernel
theorem dX4_takesOld_1 : decode cX4_takesOld 1 = .ok (.aload_n 0, 1) := by decide +kernel
theorem dX4_takesOld_2 : decode cX4_takesOld 2 = .ok (.getfield 46, 3) := by decide +kernel
theorem dX4_takesOld_5 : decode cX4_takesOld 5 = .ok (.invokevirtual 109, 3) := by decide +kernel
theorem dX4_takesOld_8 : decode cX4_takesOld 8 = .ok (.ifCond .eq 14, 3) := by decide +kernel
theorem dX4_takesOld_11 : decode cX4_takesOld 11 = .ok (.aload_n 1, 1) := by decide +kernel
theorem dX4_takesOld_12 : decode cX4_takesOld 12 = .ok (.aload_n 0, 1) := by decide +kernel
theorem dX4_takesOld_13 : decode cX4_takesOld 13 = .ok (.getfield 39, 3) := by decide +kernel
theorem dX4_takesOld_16 : decode cX4_takesOld 16 = .ok (.invokevirtual 86, 3) := by decide +kernel
theorem dX4_takesOld_19 : decode cX4_takesOld 19 = .ok (.ifCond .ne 5, 3) := by decide +kernel
theorem dX4_takesOld_22 : decode cX4_takesOld 22 = .ok (.iconst 0, 1) := by decide +kernel
theorem dX4_takesOld_23 : decode cX4_takesOld 23 = .ok (.ireturn, 1) := by decide +kernel
theorem dX4_takesOld_24 : decode cX4_takesOld 24 = .ok (.aload_n 1, 1) := by decide +kernel
theorem dX4_takesOld_25 : decode cX4_takesOld 25 = .ok (.aload_n 0, 1) := by decide +kernel
theorem dX4_takesOld_26 : decode cX4_takesOld 26 = .ok (.getfield 46, 3) := by decide +kernel
theorem dX4_takesOld_29 : decode cX4_takesOld 29 = .ok (.aload_n 0, 1) := by decide +kernel
theorem dX4_takesOld_30 : decode cX4_takesOld 30 = .ok (.getfield 39, 3) := by decide +kernel
theorem dX4_takesOld_33 : decode cX4_takesOld 33 = .ok (.invokevirtual 112, 3) := by decide +kernel
theorem dX4_takesOld_36 : decode cX4_takesOld 36 = .ok (.aload_n 0, 1) := by decide +kernel
theorem dX4_takesOld_37 : decode cX4_takesOld 37 = .ok (.iconst 1, 1) := by decide +kernel
theorem dX4_takesOld_38 : decode cX4_takesOld 38 = .ok (.putfield 20, 3) := by decide +kernel
theorem dX4_takesOld_41 : decode cX4_takesOld 41 = .ok (.aload_n 0, 1) := by decide +kernel
theorem dX4_takesOld_42 : decode cX4_takesOld 42 = .ok (.iconst 1, 1) := by decide +kernel
theorem dX4_takesOld_43 : decode cX4_takesOld 43 = .ok (.putfield 24, 3) := by decide +kernel
theorem dX4_takesOld_46 : decode cX4_takesOld 46 = .ok (.iconst 1, 1) := by decide +kernel
theorem dX4_takesOld_47 : decode cX4_takesOld 47 = .ok (.ireturn, 1) := by decide +kernel
def fX4_takesOld (t_first : Int32) (t_second : Int32) (t_stoneTold : Int32) (t_paintTold : Int32) (a1_rows : Int32) (a1_columns : Int32) (a1_paints : Int32) (a1_old : Int32) (a1_shut : Int32) : Option (Int32 × Int32 × Int32 × Int32 × Int32) :=
((fX3_hasStone a1_rows a1_columns t_first).bind fun r1 =>
(if r1 = 0 then
(some ((0 : Int32), t_stoneTold, t_paintTold, a1_old, a1_shut))
else
((fX3_hasPaint a1_paints t_second).bind fun r4 =>
(if r4 = 0 then
(some ((0 : Int32), t_stoneTold, t_paintTold, a1_old, a1_shut))
else
((fX3_setOld a1_old a1_shut t_first t_second).bind fun r7 =>
(some ((1 : Int32), (1 : Int32), (1 : Int32), r7.1, r7.2)))))))
def oX4_takesOld (D : jv_D) (h_t : Nat) (h_a1 : Nat) (h_a1_ruledOut : Nat) (t_at : Int32) (t_first : Int32) (t_second : Int32) (a1_rows : Int32) (a1_columns : Int32) (a1_paints : Int32) (a1_apart : Int32) (a1_paintsOf0 : Int32) (a1_paintsOf1 : Int32) (a1_all : Int32) (a1_firstColumn : Int32) (a1_fitsAtFirst : Int32) (a1_paintingsOf0 : Int32) (a1_paintingsOf1 : Int32) (r : Int32 × Int32 × Int32 × Int32 × Int32) : va_W := [(h_t, .inr (3, [.int t_at, .int t_first, .int t_second, .int r.2.1, .int r.2.2.1])), (h_a1, .inr (2, [.int a1_rows, .int a1_columns, .int a1_paints, .int a1_apart, .int a1_paintsOf0, .int a1_paintsOf1, .int r.2.2.2.1, .int r.2.2.2.2, .int a1_all, .int a1_firstColumn, .int a1_fitsAtFirst, .int a1_paintingsOf0, .int a1_paintingsOf1, .ref h_a1_ruledOut]))]
set_option maxHeartbeats 40000000 in
set_option maxRecDepth 100000 in
theorem mX4_takesOld (l : Launch) (D : jv_D) (h_t : Nat) (h_a1 : Nat) (h_a1_ruledOut : Nat) (t_at : Int32) (t_first : Int32) (t_second : Int32) (t_stoneTold : Int32) (t_paintTold : Int32) (a1_rows : Int32) (a1_columns : Int32) (a1_paints : Int32) (a1_apart : Int32) (a1_paintsOf0 : Int32) (a1_paintsOf1 : Int32) (a1_old : Int32) (a1_shut : Int32) (a1_all : Int32) (a1_firstColumn : Int32) (a1_fitsAtFirst : Int32) (a1_paintingsOf0 : Int32) (a1_paintingsOf1 : Int32) (r : Int32 × Int32 × Int32 × Int32 × Int32) (h : fX4_takesOld t_first t_second t_stoneTold t_paintTold a1_rows a1_columns a1_paints a1_old a1_shut = some r) : MM l yX4_takesOld (jW yX4_takesOld cX4_takesOld 2 (some .boolean)) ({ frames := 2, cells := 0, slots := 0, locals := 43 }) D [.ref h_t, .ref h_a1] [(h_t, .inr (3, [.int t_at, .int t_first, .int t_second, .int t_stoneTold, .int t_paintTold])), (h_a1, .inr (2, [.int a1_rows, .int a1_columns, .int a1_paints, .int a1_apart, .int a1_paintsOf0, .int a1_paintsOf1, .int a1_old, .int a1_shut, .int a1_all, .int a1_firstColumn, .int a1_fitsAtFirst, .int a1_paintingsOf0, .int a1_paintingsOf1, .ref h_a1_ruledOut]))] (some (.int r.1)) (oX4_takesOld D h_t h_a1 h_a1_ruledOut t_at t_first t_second a1_rows a1_columns a1_paints a1_apart a1_paintsOf0 a1_paintsOf1 a1_all a1_firstColumn a1_fitsAtFirst a1_paintingsOf0 a1_paintingsOf1 r) := by
  refine mn_of hpX4_takesOld (Nat.le_of_ble_eq_true rfl) ?_
  intro X hXl C E0 hN
  subst hXl
  replace C : JC D X 2 RX4 cX4_takesOld ({ frames := 2, cells := 0, slots := 0, locals := 43 }) := C
  have E : JE D X 0 0 (some .boolean) (fun _ : Unit => (some (.int r.1))) (fun _ : Unit => (oX4_takesOld D h_t h_a1 h_a1_ruledOut t_at t_first t_second a1_rows a1_columns a1_paints a1_apart a1_paintsOf0 a1_paintsOf1 a1_all a1_firstColumn a1_fitsAtFirst a1_paintingsOf0 a1_paintingsOf1 r)) := E0 0 0 rfl rfl
  clear E0 hN
  show JJ D X 2 0 0 0 [(0, .ref h_t), (1, .ref h_a1)] [] [(h_t, .inr (3, [.int t_at, .int t_first, .int t_second, .int t_stoneTold, .int t_paintTold])), (h_a1, .inr (2, [.int a1_rows, .int a1_columns, .int a1_paints, .int a1_apart, .int a1_paintsOf0, .int a1_paintsOf1, .int a1_old, .int a1_shut, .int a1_all, .int a1_firstColumn, .int a1_fitsAtFirst, .int a1_paintingsOf0, .int a1_paintingsOf1, .ref h_a1_ruledOut]))]
  unfold fX4_takesOld at h
  refine j_aload_n C dX4_takesOld_0 rfl 1 rfl ?_
  refine j_aload_n C dX4_takesOld_1 rfl 0 rfl ?_
  refine j_get C ibX4 (ci := 3) 0 rfl rfl 1 (by decide) bfX4_46 (v := .int t_first) rfl dX4_takesOld_2 ?_
  obtain ⟨r1, q2, h⟩ := jl_bind h
  refine j_cV1 C (mX3_hasStone (jlaunch X) D h_a1 h_a1_ruledOut a1_rows a1_columns a1_paints a1_apart a1_paintsOf0 a1_paintsOf1 a1_old a1_shut a1_all a1_firstColumn a1_fitsAtFirst a1_paintingsOf0 a1_paintingsOf1 t_first r1 q2) bmX4_109 biX3_hasStone bsX3_hasStone bzX3 bcX3_hasStone rfl hX3_hasStone (rest := []) rfl (jroom_of rfl) 0 (ci := 2) rfl rfl rfl [1] [0] [0, 1] (wr := [(h_t, .inr (3, [.int t_at, .int t_first, .int t_second, .int t_stoneTold, .int t_paintTold]))]) (ws2 := [(h_t, .inr (3, [.int t_at, .int t_first, .int t_second, .int t_stoneTold, .int t_paintTold])), (h_a1, .inr (2, [.int a1_rows, .int a1_columns, .int a1_paints, .int a1_apart, .int a1_paintsOf0, .int a1_paintsOf1, .int a1_old, .int a1_shut, .int a1_all, .int a1_firstColumn, .int a1_fitsAtFirst, .int a1_paintingsOf0, .int a1_paintingsOf1, .ref h_a1_ruledOut]))]) rfl rfl rfl rfl rfl (Nat.le_of_ble_eq_true rfl) dX4_takesOld_5 ?_
  refine j_if_eq C (tgt := 22) dX4_takesOld_8 (by decide) h (fun c3 h => ?_) (fun c3 h => ?_)
  · refine j_iconst C dX4_takesOld_22 (v := (0 : Int32)) (by decide) ?_
    exact j_zretR C (r := r) (rtf := fun r => (some (.int r.1))) (wff := fun r => (oX4_takesOld D h_t h_a1 h_a1_ruledOut t_at t_first t_second a1_rows a1_columns a1_paints a1_apart a1_paintsOf0 a1_paintsOf1 a1_all a1_firstColumn a1_fitsAtFirst a1_paintingsOf0 a1_paintingsOf1 r)) E rfl h rfl rfl dX4_takesOld_23
  · refine j_aload_n C dX4_takesOld_11 rfl 1 rfl ?_
    refine j_aload_n C dX4_takesOld_12 rfl 0 rfl ?_
    refine j_get C ibX4 (ci := 3) 0 rfl rfl 2 (by decide) bfX4_39 (v := .int t_second) rfl dX4_takesOld_13 ?_
    obtain ⟨r4, q5, h⟩ := jl_bind h
    refine j_cV1 C (mX3_hasPaint (jlaunch X) D h_a1 h_a1_ruledOut a1_rows a1_columns a1_paints a1_apart a1_paintsOf0 a1_paintsOf1 a1_old a1_shut a1_all a1_firstColumn a1_fitsAtFirst a1_paintingsOf0 a1_paintingsOf1 t_second r4 q5) bmX4_86 biX3_hasPaint bsX3_hasPaint bzX3 bcX3_hasPaint rfl hX3_hasPaint (rest := []) rfl (jroom_of rfl) 0 (ci := 2) rfl rfl rfl [1] [0] [0, 1] (wr := [(h_t, .inr (3, [.int t_at, .int t_first, .int t_second, .int t_stoneTold, .int t_paintTold]))]) (ws2 := [(h_t, .inr (3, [.int t_at, .int t_first, .int t_second, .int t_stoneTold, .int t_paintTold])), (h_a1, .inr (2, [.int a1_rows, .int a1_columns, .int a1_paints, .int a1_apart, .int a1_paintsOf0, .int a1_paintsOf1, .int a1_old, .int a1_shut, .int a1_all, .int a1_firstColumn, .int a1_fitsAtFirst, .int a1_paintingsOf0, .int a1_paintingsOf1, .ref h_a1_ruledOut]))]) rfl rfl rfl rfl rfl (Nat.le_of_ble_eq_true rfl) dX4_takesOld_16 ?_
    refine j_if_ne C (tgt := 24) dX4_takesOld_19 (by decide) h (fun c6 h => ?_) (fun c6 h => ?_)
    · refine j_iconst C dX4_takesOld_22 (v := (0 : Int32)) (by decide) ?_
      exact j_zretR C (r := r) (rtf := fun r => (some (.int r.1))) (wff := fun r => (oX4_takesOld D h_t h_a1 h_a1_ruledOut t_at t_first t_second a1_rows a1_columns a1_paints a1_apart a1_paintsOf0 a1_paintsOf1 a1_all a1_firstColumn a1_fitsAtFirst a1_paintingsOf0 a1_paintingsOf1 r)) E rfl h rfl rfl dX4_takesOld_23
    · refine j_aload_n C dX4_takesOld_24 rfl 1 rfl ?_
      refine j_aload_n C dX4_takesOld_25 rfl 0 rfl ?_
      refine j_get C ibX4 (ci := 3) 0 rfl rfl 1 (by decide) bfX4_46 (v := .int t_first) rfl dX4_takesOld_26 ?_
      refine j_aload_n C dX4_takesOld_29 rfl 0 rfl ?_
      refine j_get C ibX4 (ci := 3) 0 rfl rfl 2 (by decide) bfX4_39 (v := .int t_second) rfl dX4_takesOld_30 ?_
      obtain ⟨r7, q8, h⟩ := jl_bind h
      refine j_cV0 C (mX3_setOld (jlaunch X) D h_a1 h_a1_ruledOut a1_rows a1_columns a1_paints a1_apart a1_paintsOf0 a1_paintsOf1 a1_old a1_shut a1_all a1_firstColumn a1_fitsAtFirst a1_paintingsOf0 a1_paintingsOf1 t_first t_second r7 q8) bmX4_112 biX3_setOld bsX3_setOld bzX3 bcX3_setOld rfl hX3_setOld (rest := []) rfl (jroom_of rfl) 0 (ci := 2) rfl rfl rfl [1] [0] [0, 1] (wr := [(h_t, .inr (3, [.int t_at, .int t_first, .int t_second, .int t_stoneTold, .int t_paintTold]))]) (ws2 := [(h_t, .inr (3, [.int t_at, .int t_first, .int t_second, .int t_stoneTold, .int t_paintTold])), (h_a1, .inr (2, [.int a1_rows, .int a1_columns, .int a1_paints, .int a1_apart, .int a1_paintsOf0, .int a1_paintsOf1, .int r7.1, .int r7.2, .int a1_all, .int a1_firstColumn, .int a1_fitsAtFirst, .int a1_paintingsOf0, .int a1_paintingsOf1, .ref h_a1_ruledOut]))]) rfl rfl rfl rfl rfl (Nat.le_of_ble_eq_true rfl) dX4_takesOld_33 ?_
      refine j_aload_n C dX4_takesOld_36 rfl 0 rfl ?_
      refine j_iconst C dX4_takesOld_37 (v := (1 : Int32)) (by decide) ?_
      refine j_put C ibX4 tyX4 tyX4_ok nmX4 (ci := 3) 0 rfl rfl 3 (by decide) bfX4_20 rfl rfl rfl (Nat.le_of_ble_eq_true rfl) dX4_takesOld_38 (ws' := [(h_t, .inr (3, [.int t_at, .int t_first, .int t_second, .int ((1 : Int32)), .int t_paintTold])), (h_a1, .inr (2, [.int a1_rows, .int a1_columns, .int a1_paints, .int a1_apart, .int a1_paintsOf0, .int a1_paintsOf1, .int r7.1, .int r7.2, .int a1_all, .int a1_firstColumn, .int a1_fitsAtFirst, .int a1_paintingsOf0, .int a1_paintingsOf1, .ref h_a1_ruledOut]))]) rfl ?_
      refine j_aload_n C dX4_takesOld_41 rfl 0 rfl ?_
      refine j_iconst C dX4_takesOld_42 (v := (1 : Int32)) (by decide) ?_
      refine j_put C ibX4 tyX4 tyX4_ok nmX4 (ci := 3) 0 rfl rfl 4 (by decide) bfX4_24 rfl rfl rfl (Nat.le_of_ble_eq_true rfl) dX4_takesOld_43 (ws' := [(h_t, .inr (3, [.int t_at, .int t_first, .int t_second, .int ((1 : Int32)), .int ((1 : Int32))])), (h_a1, .inr (2, [.int a1_rows, .int a1_columns, .int a1_paints, .int a1_apart, .int a1_paintsOf0, .int a1_paintsOf1, .int r7.1, .int r7.2, .int a1_all, .int a1_firstColumn, .int a1_fitsAtFirst, .int a1_paintingsOf0, .int a1_paintingsOf1, .ref h_a1_ruledOut]))]) rfl ?_
      refine j_iconst C dX4_takesOld_46 (v := (1 : Int32)) (by decide) ?_
      exact j_zretR C (r := r) (rtf := fun r => (some (.int r.1))) (wff := fun r => (oX4_takesOld D h_t h_a1 h_a1_ruledOut t_at t_first t_second a1_rows a1_columns a1_paints a1_apart a1_paintsOf0 a1_paintsOf1 a1_all a1_firstColumn a1_fitsAtFirst a1_paintingsOf0 a1_paintingsOf1 r)) E rfl h rfl rfl dX4_takesOld_47
theorem dX4_takes_0 : decode cX4_takes 0 = .ok (.iload_n 1, 1) := by decide +kernel
theorem dX4_takes_1 : decode cX4_takes 1 = .ok (.tableswitch 158 97 120 #[146, 158, 158, 158, 158, 158, 158, 140, 158, 158, 158, 158, 123, 117, 158, 158, 158, 111, 158, 158, 158, 158, 152, 123], 111) := by decide +kernel
theorem dX4_takes_112 : decode cX4_takes 112 = .ok (.aload_n 0, 1) := by decide +kernel
theorem dX4_takes_113 : decode cX4_takes 113 = .ok (.aload_n 2, 1) := by decide +kernel
theorem dX4_takes_114 : decode cX4_takes 114 = .ok (.invokevirtual 57, 3) := by decide +kernel
theorem dX4_takes_117 : decode cX4_takes 117 = .ok (.ireturn, 1) := by decide +kernel
theorem dX4_takes_118 : decode cX4_takes 118 = .ok (.aload_n 0, 1) := by decide +kernel
theorem dX4_takes_119 : decode cX4_takes 119 = .ok (.aload_n 2, 1) := by decide +kernel
theorem dX4_takes_120 : decode cX4_takes 120 = .ok (.invokevirtual 61, 3) := by decide +kernel
theorem dX4_takes_123 : decode cX4_takes 123 = .ok (.ireturn, 1) := by decide +kernel
theorem dX4_takes_124 : decode cX4_takes 124 = .ok (.aload_n 0, 1) := by decide +kernel
theorem dX4_takes_125 : decode cX4_takes 125 = .ok (.iload_n 1, 1) := by decide +kernel
theorem dX4_takes_126 : decode cX4_takes 126 = .ok (.bipush 120, 2) := by decide +kernel
theorem dX4_takes_128 : decode cX4_takes 128 = .ok (.if_icmp .ne 7, 3) := by decide +kernel
theorem dX4_takes_131 : decode cX4_takes 131 = .ok (.iconst 1, 1) := by decide +kernel
theorem dX4_takes_132 : decode cX4_takes 132 = .ok (.goto 4, 3) := by decide +kernel
theorem dX4_takes_135 : decode cX4_takes 135 = .ok (.iconst 0, 1) := by decide +kernel
theorem dX4_takes_136 : decode cX4_takes 136 = .ok (.aload_n 2, 1) := by decide +kernel
theorem dX4_takes_137 : decode cX4_takes 137 = .ok (.invokevirtual 64, 3) := by decide +kernel
theorem dX4_takes_140 : decode cX4_takes 140 = .ok (.ireturn, 1) := by decide +kernel
theorem dX4_takes_141 : decode cX4_takes 141 = .ok (.aload_n 0, 1) := by decide +kernel
theorem dX4_takes_142 : decode cX4_takes 142 = .ok (.aload_n 2, 1) := by decide +kernel
theorem dX4_takes_143 : decode cX4_takes 143 = .ok (.invokevirtual 68, 3) := by decide +kernel
theorem dX4_takes_146 : decode cX4_takes 146 = .ok (.ireturn, 1) := by decide +kernel
theorem dX4_takes_147 : decode cX4_takes 147 = .ok (.aload_n 0, 1) := by decide +kernel
theorem dX4_takes_148 : decode cX4_takes 148 = .ok (.aload_n 2, 1) := by decide +kernel
theorem dX4_takes_149 : decode cX4_takes 149 = .ok (.invokevirtual 71, 3) := by decide +kernel
theorem dX4_takes_152 : decode cX4_takes 152 = .ok (.ireturn, 1) := by decide +kernel
theorem dX4_takes_153 : decode cX4_takes 153 = .ok (.aload_n 0, 1) := by decide +kernel
theorem dX4_takes_154 : decode cX4_takes 154 = .ok (.aload_n 2, 1) := by decide +kernel
theorem dX4_takes_155 : decode cX4_takes 155 = .ok (.invokevirtual 74, 3) := by decide +kernel
theorem dX4_takes_158 : decode cX4_takes 158 = .ok (.ireturn, 1) := by decide +kernel
theorem dX4_takes_159 : decode cX4_takes 159 = .ok (.iconst 0, 1) := by decide +kernel
theorem dX4_takes_160 : decode cX4_takes 160 = .ok (.ireturn, 1) := by decide +kernel
def fX4_takes_136 (t_first : Int32) (t_second : Int32) (p1 : Int32)  (s11 : Int32) (m_t_stoneTold_12 : Int32) (m_t_paintTold_13 : Int32) (m_a2_rows_14 : Int32) (m_a2_columns_15 : Int32) (m_a2_paints_16 : Int32) (m_a2_apart_17 : Int32) (m_a2_paintsOf0_18 : Int32) (m_a2_paintsOf1_19 : Int32) (m_a2_old_20 : Int32) (m_a2_shut_21 : Int32) : Option (Int32 × Int32 × Int32 × Int32 × Int32 × Int32 × Int32 × Int32 × Int32 × Int32 × Int32) :=
((fX4_takesPair t_first t_second m_t_paintTold_13 m_a2_paints_16 m_a2_apart_17 s11).bind fun r36 =>
(if r36.1 = 0 ∨ r36.1 = 1 then (some (r36.1, m_t_stoneTold_12, r36.2.1, m_a2_rows_14, m_a2_columns_15, m_a2_paints_16, r36.2.2, m_a2_paintsOf0_18, m_a2_paintsOf1_19, m_a2_old_20, m_a2_shut_21)) else none))
def fX4_takes (t_first : Int32) (t_second : Int32) (t_stoneTold : Int32) (t_paintTold : Int32) (a2_rows : Int32) (a2_columns : Int32) (a2_paints : Int32) (a2_apart : Int32) (a2_paintsOf0 : Int32) (a2_paintsOf1 : Int32) (a2_old : Int32) (a2_shut : Int32) (p1 : Int32) : Option (Int32 × Int32 × Int32 × Int32 × Int32 × Int32 × Int32 × Int32 × Int32 × Int32 × Int32) :=
(if p1 = (97 : Int32) then
((fX4_takesOld t_first t_second t_stoneTold t_paintTold a2_rows a2_columns a2_paints a2_old a2_shut).bind fun r2 =>
(if r2.1 = 0 ∨ r2.1 = 1 then (some (r2.1, r2.2.1, r2.2.2.1, a2_rows, a2_columns, a2_paints, a2_apart, a2_paintsOf0, a2_paintsOf1, r2.2.2.2.1, r2.2.2.2.2)) else none))
else
(if p1 = (104 : Int32) then
((fX4_takesPainter t_first t_second t_paintTold a2_paints a2_paintsOf0 a2_paintsOf1).bind fun r6 =>
(if r6.1 = 0 ∨ r6.1 = 1 then (some (r6.1, t_stoneTold, r6.2.1, a2_rows, a2_columns, a2_paints, a2_apart, r6.2.2.1, r6.2.2.2, a2_old, a2_shut)) else none))
else
(if p1 = (109 : Int32) then
(if p1 = ((120 : Int32)) then
(fX4_takes_136 t_first t_second p1 ((1 : Int32)) t_stoneTold t_paintTold a2_rows a2_columns a2_paints a2_apart a2_paintsOf0 a2_paintsOf1 a2_old a2_shut)
else
(fX4_takes_136 t_first t_second p1 ((0 : Int32)) t_stoneTold t_paintTold a2_rows a2_columns a2_paints a2_apart a2_paintsOf0 a2_paintsOf1 a2_old a2_shut))
else
(if p1 = (110 : Int32) then
((fX4_takesPaints t_first t_paintTold a2_paints).bind fun r23 =>
(if r23.1 = 0 ∨ r23.1 = 1 then (some (r23.1, t_stoneTold, t_paintTold, a2_rows, a2_columns, r23.2, a2_apart, a2_paintsOf0, a2_paintsOf1, a2_old, a2_shut)) else none))
else
(if p1 = (114 : Int32) then
((fX4_takesShape t_first t_second t_stoneTold a2_rows a2_columns).bind fun r27 =>
(if r27.1 = 0 ∨ r27.1 = 1 then (some (r27.1, t_stoneTold, t_paintTold, r27.2.1, r27.2.2, a2_paints, a2_apart, a2_paintsOf0, a2_paintsOf1, a2_old, a2_shut)) else none))
else
(if p1 = (119 : Int32) then
((fX4_takesShut t_first t_stoneTold a2_rows a2_columns a2_old a2_shut).bind fun r31 =>
(if r31.1 = 0 ∨ r31.1 = 1 then (some (r31.1, r31.2.1, t_paintTold, a2_rows, a2_columns, a2_paints, a2_apart, a2_paintsOf0, a2_paintsOf1, r31.2.2.1, r31.2.2.2)) else none))
else
(if p1 = (120 : Int32) then
(if p1 = ((120 : Int32)) then
(fX4_takes_136 t_first t_second p1 ((1 : Int32)) t_stoneTold t_paintTold a2_rows a2_columns a2_paints a2_apart a2_paintsOf0 a2_paintsOf1 a2_old a2_shut)
else
(fX4_takes_136 t_first t_second p1 ((0 : Int32)) t_stoneTold t_paintTold a2_rows a2_columns a2_paints a2_apart a2_paintsOf0 a2_paintsOf1 a2_old a2_shut))
else
(some ((0 : Int32), t_stoneTold, t_paintTold, a2_rows, a2_columns, a2_paints, a2_apart, a2_paintsOf0, a2_paintsOf1, a2_old, a2_shut)))))))))
def oX4_takes (D : jv_D) (h_t : Nat) (h_a2 : Nat) (h_a2_ruledOut : Nat) (t_at : Int32) (t_first : Int32) (t_second : Int32) (a2_all : Int32) (a2_firstColumn : Int32) (a2_fitsAtFirst : Int32) (a2_paintingsOf0 : Int32) (a2_paintingsOf1 : Int32) (r : Int32 × Int32 × Int32 × Int32 × Int32 × Int32 × Int32 × Int32 × Int32 × Int32 × Int32) : va_W := [(h_t, .inr (3, [.int t_at, .int t_first, .int t_second, .int r.2.1, .int r.2.2.1])), (h_a2, .inr (2, [.int r.2.2.2.1, .int r.2.2.2.2.1, .int r.2.2.2.2.2.1, .int r.2.2.2.2.2.2.1, .int r.2.2.2.2.2.2.2.1, .int r.2.2.2.2.2.2.2.2.1, .int r.2.2.2.2.2.2.2.2.2.1, .int r.2.2.2.2.2.2.2.2.2.2, .int a2_all, .int a2_firstColumn, .int a2_fitsAtFirst, .int a2_paintingsOf0, .int a2_paintingsOf1, .ref h_a2_ruledOut]))]
set_option maxHeartbeats 40000000 in
set_option maxRecDepth 100000 in
theorem mX4_takes (l : Launch) (D : jv_D) (h_t : Nat) (h_a2 : Nat) (h_a2_ruledOut : Nat) (t_at : Int32) (t_first : Int32) (t_second : Int32) (t_stoneTold : Int32) (t_paintTold : Int32) (a2_rows : Int32) (a2_columns : Int32) (a2_paints : Int32) (a2_apart : Int32) (a2_paintsOf0 : Int32) (a2_paintsOf1 : Int32) (a2_old : Int32) (a2_shut : Int32) (a2_all : Int32) (a2_firstColumn : Int32) (a2_fitsAtFirst : Int32) (a2_paintingsOf0 : Int32) (a2_paintingsOf1 : Int32) (p1 : Int32) (r : Int32 × Int32 × Int32 × Int32 × Int32 × Int32 × Int32 × Int32 × Int32 × Int32 × Int32) (h : fX4_takes t_first t_second t_stoneTold t_paintTold a2_rows a2_columns a2_paints a2_apart a2_paintsOf0 a2_paintsOf1 a2_old a2_shut p1 = some r) : MM l yX4_takes (jW yX4_takes cX4_takes 3 (some .boolean)) ({ frames := 3, cells := 0, slots := 0, locals := 65 }) D [.ref h_t, .int p1, .ref h_a2] [(h_t, .inr (3, [.int t_at, .int t_first, .int t_second, .int t_stoneTold, .int t_paintTold])), (h_a2, .inr (2, [.int a2_rows, .int a2_columns, .int a2_paints, .int a2_apart, .int a2_paintsOf0, .int a2_paintsOf1, .int a2_old, .int a2_shut, .int a2_all, .int a2_firstColumn, .int a2_fitsAtFirst, .int a2_paintingsOf0, .int a2_paintingsOf1, .ref h_a2_ruledOut]))] (some (.int r.1)) (oX4_takes D h_t h_a2 h_a2_ruledOut t_at t_first t_second a2_all a2_firstColumn a2_fitsAtFirst a2_paintingsOf0 a2_paintingsOf1 r) := by
  refine mn_of hpX4_takes (Nat.le_of_ble_eq_true rfl) ?_
  intro X hXl C E0 hN
  subst hXl
  replace C : JC D X 3 RX4 cX4_takes ({ frames := 3, cells := 0, slots := 0, locals := 65 }) := C
  have E : JE D X 0 0 (some .boolean) (fun _ : Unit => (some (.int r.1))) (fun _ : Unit => (oX4_takes D h_t h_a2 h_a2_ruledOut t_at t_first t_second a2_all a2_firstColumn a2_fitsAtFirst a2_paintingsOf0 a2_paintingsOf1 r)) := E0 0 0 rfl rfl
  clear E0 hN
  show JJ D X 3 0 0 0 [(0, .ref h_t), (1, .int p1), (2, .ref h_a2)] [] [(h_t, .inr (3, [.int t_at, .int t_first, .int t_second, .int t_stoneTold, .int t_paintTold])), (h_a2, .inr (2, [.int a2_rows, .int a2_columns, .int a2_paints, .int a2_apart, .int a2_paintsOf0, .int a2_paintsOf1, .int a2_old, .int a2_shut, .int a2_all, .int a2_firstColumn, .int a2_fitsAtFirst, .int a2_paintingsOf0, .int a2_paintingsOf1, .ref h_a2_ruledOut]))]
  unfold fX4_takes at h
  have L136 : ∀ (s11 : Int32) (m_t_stoneTold_12 : Int32) (m_t_paintTold_13 : Int32) (m_a2_rows_14 : Int32) (m_a2_columns_15 : Int32) (m_a2_paints_16 : Int32) (m_a2_apart_17 : Int32) (m_a2_paintsOf0_18 : Int32) (m_a2_paintsOf1_19 : Int32) (m_a2_old_20 : Int32) (m_a2_shut_21 : Int32), fX4_takes_136 t_first t_second p1  s11 m_t_stoneTold_12 m_t_paintTold_13 m_a2_rows_14 m_a2_columns_15 m_a2_paints_16 m_a2_apart_17 m_a2_paintsOf0_18 m_a2_paintsOf1_19 m_a2_old_20 m_a2_shut_21 = some r → JJ D X 3 0 0 136 [(2, .ref h_a2)] [.int s11, .ref h_t] [(h_t, .inr (3, [.int t_at, .int t_first, .int t_second, .int m_t_stoneTold_12, .int m_t_paintTold_13])), (h_a2, .inr (2, [.int m_a2_rows_14, .int m_a2_columns_15, .int m_a2_paints_16, .int m_a2_apart_17, .int m_a2_paintsOf0_18, .int m_a2_paintsOf1_19, .int m_a2_old_20, .int m_a2_shut_21, .int a2_all, .int a2_firstColumn, .int a2_fitsAtFirst, .int a2_paintingsOf0, .int a2_paintingsOf1, .ref h_a2_ruledOut]))] := by
    intro s11 m_t_stoneTold_12 m_t_paintTold_13 m_a2_rows_14 m_a2_columns_15 m_a2_paints_16 m_a2_apart_17 m_a2_paintsOf0_18 m_a2_paintsOf1_19 m_a2_old_20 m_a2_shut_21 h
    unfold fX4_takes_136 at h
    refine j_aload_n C dX4_takes_136 rfl 0 rfl ?_
    obtain ⟨r36, q37, h⟩ := jl_bind h
    refine j_cV1 C (mX4_takesPair (jlaunch X) D h_t h_a2 h_a2_ruledOut t_at t_first t_second m_t_stoneTold_12 m_t_paintTold_13 m_a2_rows_14 m_a2_columns_15 m_a2_paints_16 m_a2_apart_17 m_a2_paintsOf0_18 m_a2_paintsOf1_19 m_a2_old_20 m_a2_shut_21 a2_all a2_firstColumn a2_fitsAtFirst a2_paintingsOf0 a2_paintingsOf1 s11 r36 q37) bmX4_64 biX4_takesPair bsX4_takesPair bzX4 bcX4_takesPair rfl hX4_takesPair (rest := []) rfl (jroom_of rfl) 0 (ci := 3) rfl rfl rfl [0, 1] [] [0, 1] (wr := []) (ws2 := [(h_t, .inr (3, [.int t_at, .int t_first, .int t_second, .int m_t_stoneTold_12, .int r36.2.1])), (h_a2, .inr (2, [.int m_a2_rows_14, .int m_a2_columns_15, .int m_a2_paints_16, .int r36.2.2, .int m_a2_paintsOf0_18, .int m_a2_paintsOf1_19, .int m_a2_old_20, .int m_a2_shut_21, .int a2_all, .int a2_firstColumn, .int a2_fitsAtFirst, .int a2_paintingsOf0, .int a2_paintingsOf1, .ref h_a2_ruledOut]))]) rfl rfl rfl rfl rfl (Nat.le_of_ble_eq_true rfl) dX4_takes_137 ?_
    refine jl_grd2 h (fun b38 h => ?_)
    exact j_zretR C (r := r) (rtf := fun r => (some (.int r.1))) (wff := fun r => (oX4_takes D h_t h_a2 h_a2_ruledOut t_at t_first t_second a2_all a2_firstColumn a2_fitsAtFirst a2_paintingsOf0 a2_paintingsOf1 r)) E (jl_z01 b38) h rfl rfl dX4_takes_140
  refine j_iload_n C dX4_takes_0 rfl 1 rfl ?_
  refine jl_ite h (fun c1 h => ?_) (fun c1 h => ?_)
  · refine j_tableIn C (tgt := 147) dX4_takes_1 c1 (z := 97) (by decide) (by decide) (by decide) (off := 146) rfl (by decide) ?_
    refine j_aload_n C dX4_takes_147 rfl 0 rfl ?_
    refine j_aload_n C dX4_takes_148 rfl 2 rfl ?_
    obtain ⟨r2, q3, h⟩ := jl_bind h
    refine j_cV1 C (mX4_takesOld (jlaunch X) D h_t h_a2 h_a2_ruledOut t_at t_first t_second t_stoneTold t_paintTold a2_rows a2_columns a2_paints a2_apart a2_paintsOf0 a2_paintsOf1 a2_old a2_shut a2_all a2_firstColumn a2_fitsAtFirst a2_paintingsOf0 a2_paintingsOf1 r2 q3) bmX4_71 biX4_takesOld bsX4_takesOld bzX4 bcX4_takesOld rfl hX4_takesOld (rest := []) rfl (jroom_of rfl) 0 (ci := 3) rfl rfl rfl [0, 1] [] [0, 1] (wr := []) (ws2 := [(h_t, .inr (3, [.int t_at, .int t_first, .int t_second, .int r2.2.1, .int r2.2.2.1])), (h_a2, .inr (2, [.int a2_rows, .int a2_columns, .int a2_paints, .int a2_apart, .int a2_paintsOf0, .int a2_paintsOf1, .int r2.2.2.2.1, .int r2.2.2.2.2, .int a2_all, .int a2_firstColumn, .int a2_fitsAtFirst, .int a2_paintingsOf0, .int a2_paintingsOf1, .ref h_a2_ruledOut]))]) rfl rfl rfl rfl rfl (Nat.le_of_ble_eq_true rfl) dX4_takes_149 ?_
    refine jl_grd2 h (fun b4 h => ?_)
    exact j_zretR C (r := r) (rtf := fun r => (some (.int r.1))) (wff := fun r => (oX4_takes D h_t h_a2 h_a2_ruledOut t_at t_first t_second a2_all a2_firstColumn a2_fitsAtFirst a2_paintingsOf0 a2_paintingsOf1 r)) E (jl_z01 b4) h rfl rfl dX4_takes_152
  refine jl_ite h (fun c5 h => ?_) (fun c5 h => ?_)
  · refine j_tableIn C (tgt := 141) dX4_takes_1 c5 (z := 104) (by decide) (by decide) (by decide) (off := 140) rfl (by decide) ?_
    refine j_aload_n C dX4_takes_141 rfl 0 rfl ?_
    refine j_aload_n C dX4_takes_142 rfl 2 rfl ?_
    obtain ⟨r6, q7, h⟩ := jl_bind h
    refine j_cV1 C (mX4_takesPainter (jlaunch X) D h_t h_a2 h_a2_ruledOut t_at t_first t_second t_stoneTold t_paintTold a2_rows a2_columns a2_paints a2_apart a2_paintsOf0 a2_paintsOf1 a2_old a2_shut a2_all a2_firstColumn a2_fitsAtFirst a2_paintingsOf0 a2_paintingsOf1 r6 q7) bmX4_68 biX4_takesPainter bsX4_takesPainter bzX4 bcX4_takesPainter rfl hX4_takesPainter (rest := []) rfl (jroom_of rfl) 0 (ci := 3) rfl rfl rfl [0, 1] [] [0, 1] (wr := []) (ws2 := [(h_t, .inr (3, [.int t_at, .int t_first, .int t_second, .int t_stoneTold, .int r6.2.1])), (h_a2, .inr (2, [.int a2_rows, .int a2_columns, .int a2_paints, .int a2_apart, .int r6.2.2.1, .int r6.2.2.2, .int a2_old, .int a2_shut, .int a2_all, .int a2_firstColumn, .int a2_fitsAtFirst, .int a2_paintingsOf0, .int a2_paintingsOf1, .ref h_a2_ruledOut]))]) rfl rfl rfl rfl rfl (Nat.le_of_ble_eq_true rfl) dX4_takes_143 ?_
    refine jl_grd2 h (fun b8 h => ?_)
    exact j_zretR C (r := r) (rtf := fun r => (some (.int r.1))) (wff := fun r => (oX4_takes D h_t h_a2 h_a2_ruledOut t_at t_first t_second a2_all a2_firstColumn a2_fitsAtFirst a2_paintingsOf0 a2_paintingsOf1 r)) E (jl_z01 b8) h rfl rfl dX4_takes_146
  refine jl_ite h (fun c9 h => ?_) (fun c9 h => ?_)
  · refine j_tableIn C (tgt := 124) dX4_takes_1 c9 (z := 109) (by decide) (by decide) (by decide) (off := 123) rfl (by decide) ?_
    refine j_aload_n C dX4_takes_124 rfl 0 rfl ?_
    refine j_iload_n C dX4_takes_125 rfl 1 rfl ?_
    refine j_bipush C dX4_takes_126 (v := (120 : Int32)) (by decide) ?_
    refine j_icmp_ne C (tgt := 135) dX4_takes_128 (by decide) h (fun c10 h => ?_) (fun c10 h => ?_)
    · refine j_iconst C dX4_takes_131 (v := (1 : Int32)) (by decide) ?_
      refine j_goto C dX4_takes_132 (tgt := 136) (by decide) ?_
      refine j_sub (lv' := [(2, .ref h_a2)]) [2] rfl ?_
      exact L136 ((1 : Int32)) t_stoneTold t_paintTold a2_rows a2_columns a2_paints a2_apart a2_paintsOf0 a2_paintsOf1 a2_old a2_shut h
    · refine j_iconst C dX4_takes_135 (v := (0 : Int32)) (by decide) ?_
      refine j_sub (lv' := [(2, .ref h_a2)]) [2] rfl ?_
      exact L136 ((0 : Int32)) t_stoneTold t_paintTold a2_rows a2_columns a2_paints a2_apart a2_paintsOf0 a2_paintsOf1 a2_old a2_shut h
  refine jl_ite h (fun c22 h => ?_) (fun c22 h => ?_)
  · refine j_tableIn C (tgt := 118) dX4_takes_1 c22 (z := 110) (by decide) (by decide) (by decide) (off := 117) rfl (by decide) ?_
    refine j_aload_n C dX4_takes_118 rfl 0 rfl ?_
    refine j_aload_n C dX4_takes_119 rfl 2 rfl ?_
    obtain ⟨r23, q24, h⟩ := jl_bind h
    refine j_cV1 C (mX4_takesPaints (jlaunch X) D h_t h_a2 h_a2_ruledOut t_at t_first t_second t_stoneTold t_paintTold a2_rows a2_columns a2_paints a2_apart a2_paintsOf0 a2_paintsOf1 a2_old a2_shut a2_all a2_firstColumn a2_fitsAtFirst a2_paintingsOf0 a2_paintingsOf1 r23 q24) bmX4_61 biX4_takesPaints bsX4_takesPaints bzX4 bcX4_takesPaints rfl hX4_takesPaints (rest := []) rfl (jroom_of rfl) 0 (ci := 3) rfl rfl rfl [0, 1] [] [0, 1] (wr := []) (ws2 := [(h_t, .inr (3, [.int t_at, .int t_first, .int t_second, .int t_stoneTold, .int t_paintTold])), (h_a2, .inr (2, [.int a2_rows, .int a2_columns, .int r23.2, .int a2_apart, .int a2_paintsOf0, .int a2_paintsOf1, .int a2_old, .int a2_shut, .int a2_all, .int a2_firstColumn, .int a2_fitsAtFirst, .int a2_paintingsOf0, .int a2_paintingsOf1, .ref h_a2_ruledOut]))]) rfl rfl rfl rfl rfl (Nat.le_of_ble_eq_true rfl) dX4_takes_120 ?_
    refine jl_grd2 h (fun b25 h => ?_)
    exact j_zretR C (r := r) (rtf := fun r => (some (.int r.1))) (wff := fun r => (oX4_takes D h_t h_a2 h_a2_ruledOut t_at t_first t_second a2_all a2_firstColumn a2_fitsAtFirst a2_paintingsOf0 a2_paintingsOf1 r)) E (jl_z01 b25) h rfl rfl dX4_takes_123
  refine jl_ite h (fun c26 h => ?_) (fun c26 h => ?_)
  · refine j_tableIn C (tgt := 112) dX4_takes_1 c26 (z := 114) (by decide) (by decide) (by decide) (off := 111) rfl (by decide) ?_
    refine j_aload_n C dX4_takes_112 rfl 0 rfl ?_
    refine j_aload_n C dX4_takes_113 rfl 2 rfl ?_
    obtain ⟨r27, q28, h⟩ := jl_bind h
    refine j_cV1 C (mX4_takesShape (jlaunch X) D h_t h_a2 h_a2_ruledOut t_at t_first t_second t_stoneTold t_paintTold a2_rows a2_columns a2_paints a2_apart a2_paintsOf0 a2_paintsOf1 a2_old a2_shut a2_all a2_firstColumn a2_fitsAtFirst a2_paintingsOf0 a2_paintingsOf1 r27 q28) bmX4_57 biX4_takesShape bsX4_takesShape bzX4 bcX4_takesShape rfl hX4_takesShape (rest := []) rfl (jroom_of rfl) 0 (ci := 3) rfl rfl rfl [0, 1] [] [0, 1] (wr := []) (ws2 := [(h_t, .inr (3, [.int t_at, .int t_first, .int t_second, .int t_stoneTold, .int t_paintTold])), (h_a2, .inr (2, [.int r27.2.1, .int r27.2.2, .int a2_paints, .int a2_apart, .int a2_paintsOf0, .int a2_paintsOf1, .int a2_old, .int a2_shut, .int a2_all, .int a2_firstColumn, .int a2_fitsAtFirst, .int a2_paintingsOf0, .int a2_paintingsOf1, .ref h_a2_ruledOut]))]) rfl rfl rfl rfl rfl (Nat.le_of_ble_eq_true rfl) dX4_takes_114 ?_
    refine jl_grd2 h (fun b29 h => ?_)
    exact j_zretR C (r := r) (rtf := fun r => (some (.int r.1))) (wff := fun r => (oX4_takes D h_t h_a2 h_a2_ruledOut t_at t_first t_second a2_all a2_firstColumn a2_fitsAtFirst a2_paintingsOf0 a2_paintingsOf1 r)) E (jl_z01 b29) h rfl rfl dX4_takes_117
  refine jl_ite h (fun c30 h => ?_) (fun c30 h => ?_)
  · refine j_tableIn C (tgt := 153) dX4_takes_1 c30 (z := 119) (by decide) (by decide) (by decide) (off := 152) rfl (by decide) ?_
    refine j_aload_n C dX4_takes_153 rfl 0 rfl ?_
    refine j_aload_n C dX4_takes_154 rfl 2 rfl ?_
    obtain ⟨r31, q32, h⟩ := jl_bind h
    refine j_cV1 C (mX4_takesShut (jlaunch X) D h_t h_a2 h_a2_ruledOut t_at t_first t_second t_stoneTold t_paintTold a2_rows a2_columns a2_paints a2_apart a2_paintsOf0 a2_paintsOf1 a2_old a2_shut a2_all a2_firstColumn a2_fitsAtFirst a2_paintingsOf0 a2_paintingsOf1 r31 q32) bmX4_74 biX4_takesShut bsX4_takesShut bzX4 bcX4_takesShut rfl hX4_takesShut (rest := []) rfl (jroom_of rfl) 0 (ci := 3) rfl rfl rfl [0, 1] [] [0, 1] (wr := []) (ws2 := [(h_t, .inr (3, [.int t_at, .int t_first, .int t_second, .int r31.2.1, .int t_paintTold])), (h_a2, .inr (2, [.int a2_rows, .int a2_columns, .int a2_paints, .int a2_apart, .int a2_paintsOf0, .int a2_paintsOf1, .int r31.2.2.1, .int r31.2.2.2, .int a2_all, .int a2_firstColumn, .int a2_fitsAtFirst, .int a2_paintingsOf0, .int a2_paintingsOf1, .ref h_a2_ruledOut]))]) rfl rfl rfl rfl rfl (Nat.le_of_ble_eq_true rfl) dX4_takes_155 ?_
    refine jl_grd2 h (fun b33 h => ?_)
    exact j_zretR C (r := r) (rtf := fun r => (some (.int r.1))) (wff := fun r => (oX4_takes D h_t h_a2 h_a2_ruledOut t_at t_first t_second a2_all a2_firstColumn a2_fitsAtFirst a2_paintingsOf0 a2_paintingsOf1 r)) E (jl_z01 b33) h rfl rfl dX4_takes_158
  refine jl_ite h (fun c34 h => ?_) (fun c34 h => ?_)
  · refine j_tableIn C (tgt := 124) dX4_takes_1 c34 (z := 120) (by decide) (by decide) (by decide) (off := 123) rfl (by decide) ?_
    refine j_aload_n C dX4_takes_124 rfl 0 rfl ?_
    refine j_iload_n C dX4_takes_125 rfl 1 rfl ?_
    refine j_bipush C dX4_takes_126 (v := (120 : Int32)) (by decide) ?_
    refine j_icmp_ne C (tgt := 135) dX4_takes_128 (by decide) h (fun c35 h => ?_) (fun c35 h => ?_)
    · refine j_iconst C dX4_takes_131 (v := (1 : Int32)) (by decide) ?_
      refine j_goto C dX4_takes_132 (tgt := 136) (by decide) ?_
      refine j_sub (lv' := [(2, .ref h_a2)]) [2] rfl ?_
      exact L136 ((1 : Int32)) t_stoneTold t_paintTold a2_rows a2_columns a2_paints a2_apart a2_paintsOf0 a2_paintsOf1 a2_old a2_shut h
    · refine j_iconst C dX4_takes_135 (v := (0 : Int32)) (by decide) ?_
      refine j_sub (lv' := [(2, .ref h_a2)]) [2] rfl ?_
      exact L136 ((0 : Int32)) t_stoneTold t_paintTold a2_rows a2_columns a2_paints a2_apart a2_paintsOf0 a2_paintsOf1 a2_old a2_shut h
  have ec1 := lv_neT (a := 97) c1 (by decide)
  have ec5 := lv_neT (a := 104) c5 (by decide)
  have ec9 := lv_neT (a := 109) c9 (by decide)
  have ec22 := lv_neT (a := 110) c22 (by decide)
  have ec26 := lv_neT (a := 114) c26 (by decide)
  have ec30 := lv_neT (a := 119) c30 (by decide)
  have ec34 := lv_neT (a := 120) c34 (by decide)
  have K0 : JJ D X 3 0 0 159 [(0, .ref h_t), (1, .int p1), (2, .ref h_a2)] [] [(h_t, .inr (3, [.int t_at, .int t_first, .int t_second, .int t_stoneTold, .int t_paintTold])), (h_a2, .inr (2, [.int a2_rows, .int a2_columns, .int a2_paints, .int a2_apart, .int a2_paintsOf0, .int a2_paintsOf1, .int a2_old, .int a2_shut, .int a2_all, .int a2_firstColumn, .int a2_fitsAtFirst, .int a2_paintingsOf0, .int a2_paintingsOf1, .ref h_a2_ruledOut]))] := by
    refine j_iconst C dX4_takes_159 (v := (0 : Int32)) (by decide) ?_
    exact j_zretR C (r := r) (rtf := fun r => (some (.int r.1))) (wff := fun r => (oX4_takes D h_t h_a2 h_a2_ruledOut t_at t_first t_second a2_all a2_firstColumn a2_fitsAtFirst a2_paintingsOf0 a2_paintingsOf1 r)) E rfl h rfl rfl dX4_takes_160
  rcases (show (Int32.toInt p1 < 97 ∨ 120 < Int32.toInt p1) ∨ Int32.toInt p1 = 98 ∨ Int32.toInt p1 = 99 ∨ Int32.toInt p1 = 100 ∨ Int32.toInt p1 = 101 ∨ Int32.toInt p1 = 102 ∨ Int32.toInt p1 = 103 ∨ Int32.toInt p1 = 105 ∨ Int32.toInt p1 = 106 ∨ Int32.toInt p1 = 107 ∨ Int32.toInt p1 = 108 ∨ Int32.toInt p1 = 111 ∨ Int32.toInt p1 = 112 ∨ Int32.toInt p1 = 113 ∨ Int32.toInt p1 = 115 ∨ Int32.toInt p1 = 116 ∨ Int32.toInt p1 = 117 ∨ Int32.toInt p1 = 118 by omega) with e0 | e0 | e0 | e0 | e0 | e0 | e0 | e0 | e0 | e0 | e0 | e0 | e0 | e0 | e0 | e0 | e0 | e0
  · exact j_tableOut C (tgt := 159) dX4_takes_1 e0 (by decide) K0
  · exact j_tableInT C (tgt := 159) dX4_takes_1 (z := 98) e0 (by decide) (by decide) (off := 158) rfl (by decide) K0
  · exact j_tableInT C (tgt := 159) dX4_takes_1 (z := 99) e0 (by decide) (by decide) (off := 158) rfl (by decide) K0
  · exact j_tableInT C (tgt := 159) dX4_takes_1 (z := 100) e0 (by decide) (by decide) (off := 158) rfl (by decide) K0
  · exact j_tableInT C (tgt := 159) dX4_takes_1 (z := 101) e0 (by decide) (by decide) (off := 158) rfl (by decide) K0
  · exact j_tableInT C (tgt := 159) dX4_takes_1 (z := 102) e0 (by decide) (by decide) (off := 158) rfl (by decide) K0
  · exact j_tableInT C (tgt := 159) dX4_takes_1 (z := 103) e0 (by decide) (by decide) (off := 158) rfl (by decide) K0
  · exact j_tableInT C (tgt := 159) dX4_takes_1 (z := 105) e0 (by decide) (by decide) (off := 158) rfl (by decide) K0
  · exact j_tableInT C (tgt := 159) dX4_takes_1 (z := 106) e0 (by decide) (by decide) (off := 158) rfl (by decide) K0
  · exact j_tableInT C (tgt := 159) dX4_takes_1 (z := 107) e0 (by decide) (by decide) (off := 158) rfl (by decide) K0
  · exact j_tableInT C (tgt := 159) dX4_takes_1 (z := 108) e0 (by decide) (by decide) (off := 158) rfl (by decide) K0
  · exact j_tableInT C (tgt := 159) dX4_takes_1 (z := 111) e0 (by decide) (by decide) (off := 158) rfl (by decide) K0
  · exact j_tableInT C (tgt := 159) dX4_takes_1 (z := 112) e0 (by decide) (by decide) (off := 158) rfl (by decide) K0
  · exact j_tableInT C (tgt := 159) dX4_takes_1 (z := 113) e0 (by decide) (by decide) (off := 158) rfl (by decide) K0
  · exact j_tableInT C (tgt := 159) dX4_takes_1 (z := 115) e0 (by decide) (by decide) (off := 158) rfl (by decide) K0
  · exact j_tableInT C (tgt := 159) dX4_takes_1 (z := 116) e0 (by decide) (by decide) (off := 158) rfl (by decide) K0
  · exact j_tableInT C (tgt := 159) dX4_takes_1 (z := 117) e0 (by decide) (by decide) (off := 158) rfl (by decide) K0
  · exact j_tableInT C (tgt := 159) dX4_takes_1 (z := 118) e0 (by decide) (by decide) (off := 158) rfl (by decide) K0
theorem dX4_item_0 : decode cX4_item 0 = .ok (.aload_n 1, 1) := by decide +kernel
theorem dX4_item_1 : decode cX4_item 1 = .ok (.aload_n 0, 1) := by decide +kernel
theorem dX4_item_2 : decode cX4_item 2 = .ok (.getfield 14, 3) := by decide +kernel
theorem dX4_item_5 : decode cX4_item 5 = .ok (.invokevirtual 36, 3) := by decide +kernel
theorem dX4_item_8 : decode cX4_item 8 = .ok (.istore_n 3, 1) := by decide +kernel
theorem dX4_item_9 : decode cX4_item 9 = .ok (.aload_n 0, 1) := by decide +kernel
theorem dX4_item_10 : decode cX4_item 10 = .ok (.dup, 1) := by decide +kernel
theorem dX4_item_11 : decode cX4_item 11 = .ok (.getfield 14, 3) := by decide +kernel
theorem dX4_item_14 : decode cX4_item 14 = .ok (.iconst 1, 1) := by decide +kernel
theorem dX4_item_15 : decode cX4_item 15 = .ok (.iadd, 1) := by decide +kernel
theorem dX4_item_16 : decode cX4_item 16 = .ok (.putfield 14, 3) := by decide +kernel
theorem dX4_item_19 : decode cX4_item 19 = .ok (.aload_n 0, 1) := by decide +kernel
theorem dX4_item_20 : decode cX4_item 20 = .ok (.iconst 0, 1) := by decide +kernel
theorem dX4_item_21 : decode cX4_item 21 = .ok (.putfield 39, 3) := by decide +kernel
theorem dX4_item_24 : decode cX4_item 24 = .ok (.iload_n 3, 1) := by decide +kernel
theorem dX4_item_25 : decode cX4_item 25 = .ok (.bipush 110, 2) := by decide +kernel
theorem dX4_item_27 : decode cX4_item 27 = .ok (.if_icmp .eq 9, 3) := by decide +kernel
theorem dX4_item_30 : decode cX4_item 30 = .ok (.iload_n 3, 1) := by decide +kernel
theorem dX4_item_31 : decode cX4_item 31 = .ok (.bipush 119, 2) := by decide +kernel
theorem dX4_item_33 : decode cX4_item 33 = .ok (.if_icmp .ne 17, 3) := by decide +kernel
theorem dX4_item_36 : decode cX4_item 36 = .ok (.aload_n 0, 1) := by decide +kernel
theorem dX4_item_37 : decode cX4_item 37 = .ok (.aload_n 0, 1) := by decide +kernel
theorem dX4_item_38 : decode cX4_item 38 = .ok (.aload_n 1, 1) := by decide +kernel
theorem dX4_item_39 : decode cX4_item 39 = .ok (.bipush 59, 2) := by decide +kernel
theorem dX4_item_41 : decode cX4_item 41 = .ok (.invokevirtual 42, 3) := by decide +kernel
theorem dX4_item_44 : decode cX4_item 44 = .ok (.putfield 46, 3) := by decide +kernel
theorem dX4_item_47 : decode cX4_item 47 = .ok (.goto 36, 3) := by decide +kernel
theorem dX4_item_50 : decode cX4_item 50 = .ok (.aload_n 0, 1) := by decide +kernel
theorem dX4_item_51 : decode cX4_item 51 = .ok (.aload_n 0, 1) := by decide +kernel
theorem dX4_item_52 : decode cX4_item 52 = .ok (.aload_n 1, 1) := by decide +kernel
theorem dX4_item_53 : decode cX4_item 53 = .ok (.bipush 44, 2) := by decide +kernel
theorem dX4_item_55 : decode cX4_item 55 = .ok (.invokevirtual 42, 3) := by decide +kernel
theorem dX4_item_58 : decode cX4_item 58 = .ok (.putfield 46, 3) := by decide +kernel
theorem dX4_item_61 : decode cX4_item 61 = .ok (.aload_n 0, 1) := by decide +kernel
theorem dX4_item_62 : decode cX4_item 62 = .ok (.aload_n 0, 1) := by decide +kernel
theorem dX4_item_63 : decode cX4_item 63 = .ok (.getfield 46, 3) := by decide +kernel
theorem dX4_item_66 : decode cX4_item 66 = .ok (.ifCond .ge 7, 3) := by decide +kernel
theorem dX4_item_69 : decode cX4_item 69 = .ok (.iconst (-1), 1) := by decide +kernel
theorem dX4_item_70 : decode cX4_item 70 = .ok (.goto 10, 3) := by decide +kernel
theorem dX4_item_73 : decode cX4_item 73 = .ok (.aload_n 0, 1) := by decide +kernel
theorem dX4_item_74 : decode cX4_item 74 = .ok (.aload_n 1, 1) := by decide +kernel
theorem dX4_item_75 : decode cX4_item 75 = .ok (.bipush 59, 2) := by decide +kernel
theorem dX4_item_77 : decode cX4_item 77 = .ok (.invokevirtual 42, 3) := by decide +kernel
theorem dX4_item_80 : decode cX4_item 80 = .ok (.putfield 39, 3) := by decide +kernel
theorem dX4_item_83 : decode cX4_item 83 = .ok (.aload_n 0, 1) := by decide +kernel
theorem dX4_item_84 : decode cX4_item 84 = .ok (.getfield 46, 3) := by decide +kernel
theorem dX4_item_87 : decode cX4_item 87 = .ok (.ifCond .lt 23, 3) := by decide +kernel
theorem dX4_item_90 : decode cX4_item 90 = .ok (.aload_n 0, 1) := by decide +kernel
theorem dX4_item_91 : decode cX4_item 91 = .ok (.getfield 39, 3) := by decide +kernel
theorem dX4_item_94 : decode cX4_item 94 = .ok (.ifCond .lt 16, 3) := by decide +kernel
theorem dX4_item_97 : decode cX4_item 97 = .ok (.aload_n 0, 1) := by decide +kernel
theorem dX4_item_98 : decode cX4_item 98 = .ok (.iload_n 3, 1) := by decide +kernel
theorem dX4_item_99 : decode cX4_item 99 = .ok (.aload_n 2, 1) := by decide +kernel
theorem dX4_item_100 : decode cX4_item 100 = .ok (.invokevirtual 49, 3) := by decide +kernel
theorem dX4_item_103 : decode cX4_item 103 = .ok (.ifCond .eq 7, 3) := by decide +kernel
theorem dX4_item_106 : decode cX4_item 106 = .ok (.iconst 1, 1) := by decide +kernel
theorem dX4_item_107 : decode cX4_item 107 = .ok (.goto 4, 3) := by decide +kernel
theorem dX4_item_110 : decode cX4_item 110 = .ok (.iconst 0, 1) := by decide +kernel
theorem dX4_item_111 : decode cX4_item 111 = .ok (.ireturn, 1) := by decide +kernel
def fX4_item_83 (F : Nat) (a1_length : Int32) (a1_bytes_ : Nat → Int32)  (x44 : Int32) (m_t_at_45 : Int32) (m_t_first_46 : Int32) (m_t_second_47 : Int32) (m_t_stoneTold_48 : Int32) (m_t_paintTold_49 : Int32) (m_a2_rows_50 : Int32) (m_a2_columns_51 : Int32) (m_a2_paints_52 : Int32) (m_a2_apart_53 : Int32) (m_a2_paintsOf0_54 : Int32) (m_a2_paintsOf1_55 : Int32) (m_a2_old_56 : Int32) (m_a2_shut_57 : Int32) : Option (Int32 × Int32 × Int32 × Int32 × Int32 × Int32 × Int32 × Int32 × Int32 × Int32 × Int32 × Int32 × Int32 × Int32) :=
(if m_t_first_46 < 0 then
(some ((0 : Int32), m_t_at_45, m_t_first_46, m_t_second_47, m_t_stoneTold_48, m_t_paintTold_49, m_a2_rows_50, m_a2_columns_51, m_a2_paints_52, m_a2_apart_53, m_a2_paintsOf0_54, m_a2_paintsOf1_55, m_a2_old_56, m_a2_shut_57))
else
(if m_t_second_47 < 0 then
(some ((0 : Int32), m_t_at_45, m_t_first_46, m_t_second_47, m_t_stoneTold_48, m_t_paintTold_49, m_a2_rows_50, m_a2_columns_51, m_a2_paints_52, m_a2_apart_53, m_a2_paintsOf0_54, m_a2_paintsOf1_55, m_a2_old_56, m_a2_shut_57))
else
((fX4_takes m_t_first_46 m_t_second_47 m_t_stoneTold_48 m_t_paintTold_49 m_a2_rows_50 m_a2_columns_51 m_a2_paints_52 m_a2_apart_53 m_a2_paintsOf0_54 m_a2_paintsOf1_55 m_a2_old_56 m_a2_shut_57 x44).bind fun r60 =>
(if r60.1 = 0 then
(some ((0 : Int32), m_t_at_45, m_t_first_46, m_t_second_47, r60.2.1, r60.2.2.1, r60.2.2.2.1, r60.2.2.2.2.1, r60.2.2.2.2.2.1, r60.2.2.2.2.2.2.1, r60.2.2.2.2.2.2.2.1, r60.2.2.2.2.2.2.2.2.1, r60.2.2.2.2.2.2.2.2.2.1, r60.2.2.2.2.2.2.2.2.2.2))
else
(some ((1 : Int32), m_t_at_45, m_t_first_46, m_t_second_47, r60.2.1, r60.2.2.1, r60.2.2.2.1, r60.2.2.2.2.1, r60.2.2.2.2.2.1, r60.2.2.2.2.2.2.1, r60.2.2.2.2.2.2.2.1, r60.2.2.2.2.2.2.2.2.1, r60.2.2.2.2.2.2.2.2.2.1, r60.2.2.2.2.2.2.2.2.2.2))))))
def fX4_item_36 (F : Nat) (a1_length : Int32) (a1_bytes_ : Nat → Int32)  (x5 : Int32) (m_t_at_6 : Int32) (m_t_first_7 : Int32) (m_t_second_8 : Int32) (m_t_stoneTold_9 : Int32) (m_t_paintTold_10 : Int32) (m_a2_rows_11 : Int32) (m_a2_columns_12 : Int32) (m_a2_paints_13 : Int32) (m_a2_apart_14 : Int32) (m_a2_paintsOf0_15 : Int32) (m_a2_paintsOf1_16 : Int32) (m_a2_old_17 : Int32) (m_a2_shut_18 : Int32) : Option (Int32 × Int32 × Int32 × Int32 × Int32 × Int32 × Int32 × Int32 × Int32 × Int32 × Int32 × Int32 × Int32 × Int32) :=
((fX4_number F m_t_at_6 a1_length a1_bytes_ ((59 : Int32))).bind fun r41 =>
(jl_let r41.1 fun w43 =>
(fX4_item_83 F a1_length a1_bytes_ x5 r41.2 w43 m_t_second_8 m_t_stoneTold_9 m_t_paintTold_10 m_a2_rows_11 m_a2_columns_12 m_a2_paints_13 m_a2_apart_14 m_a2_paintsOf0_15 m_a2_paintsOf1_16 m_a2_old_17 m_a2_shut_18)))
def fX4_item_80 (F : Nat) (a1_length : Int32) (a1_bytes_ : Nat → Int32)  (x26 : Int32) (s27 : Int32) (m_t_at_28 : Int32) (m_t_first_29 : Int32) (m_t_second_30 : Int32) (m_t_stoneTold_31 : Int32) (m_t_paintTold_32 : Int32) (m_a2_rows_33 : Int32) (m_a2_columns_34 : Int32) (m_a2_paints_35 : Int32) (m_a2_apart_36 : Int32) (m_a2_paintsOf0_37 : Int32) (m_a2_paintsOf1_38 : Int32) (m_a2_old_39 : Int32) (m_a2_shut_40 : Int32) : Option (Int32 × Int32 × Int32 × Int32 × Int32 × Int32 × Int32 × Int32 × Int32 × Int32 × Int32 × Int32 × Int32 × Int32) :=
(fX4_item_83 F a1_length a1_bytes_ x26 m_t_at_28 m_t_first_29 s27 m_t_stoneTold_31 m_t_paintTold_32 m_a2_rows_33 m_a2_columns_34 m_a2_paints_35 m_a2_apart_36 m_a2_paintsOf0_37 m_a2_paintsOf1_38 m_a2_old_39 m_a2_shut_40)
def fX4_item (F : Nat) (t_at : Int32) (t_first : Int32) (t_second : Int32) (t_stoneTold : Int32) (t_paintTold : Int32) (a1_length : Int32) (a1_bytes_ : Nat → Int32) (a2_rows : Int32) (a2_columns : Int32) (a2_paints : Int32) (a2_apart : Int32) (a2_paintsOf0 : Int32) (a2_paintsOf1 : Int32) (a2_old : Int32) (a2_shut : Int32) : Option (Int32 × Int32 × Int32 × Int32 × Int32 × Int32 × Int32 × Int32 × Int32 × Int32 × Int32 × Int32 × Int32 × Int32) :=
((fX6_at a1_length a1_bytes_ t_at).bind fun r1 =>
(jl_let (t_at + ((1 : Int32))) fun w3 =>
(if r1 = ((110 : Int32)) then
(fX4_item_36 F a1_length a1_bytes_ r1 w3 t_first ((0 : Int32)) t_stoneTold t_paintTold a2_rows a2_columns a2_paints a2_apart a2_paintsOf0 a2_paintsOf1 a2_old a2_shut)
else
(if r1 = ((119 : Int32)) then
(fX4_item_36 F a1_length a1_bytes_ r1 w3 t_first ((0 : Int32)) t_stoneTold t_paintTold a2_rows a2_columns a2_paints a2_apart a2_paintsOf0 a2_paintsOf1 a2_old a2_shut)
else
((fX4_number F w3 a1_length a1_bytes_ ((44 : Int32))).bind fun r20 =>
(jl_let r20.1 fun w22 =>
(if 0 ≤ w22 then
((fX4_number F r20.2 a1_length a1_bytes_ ((59 : Int32))).bind fun r24 =>
(fX4_item_80 F a1_length a1_bytes_ r1 r24.1 r24.2 w22 ((0 : Int32)) t_stoneTold t_paintTold a2_rows a2_columns a2_paints a2_apart a2_paintsOf0 a2_paintsOf1 a2_old a2_shut))
else
(fX4_item_80 F a1_length a1_bytes_ r1 ((-1 : Int32)) r20.2 w22 ((0 : Int32)) t_stoneTold t_paintTold a2_rows a2_columns a2_paints a2_apart a2_paintsOf0 a2_paintsOf1 a2_old a2_shut))))))))
def oX4_item (D : jv_D) (h_t : Nat) (h_a1 : Nat) (h_a2 : Nat) (h_a1_bytes : Nat) (h_a2_ruledOut : Nat) (a1_length : Int32) (a1_bytes_ : Nat → Int32) (a2_all : Int32) (a2_firstColumn : Int32) (a2_fitsAtFirst : Int32) (a2_paintingsOf0 : Int32) (a2_paintingsOf1 : Int32) (r : Int32 × Int32 × Int32 × Int32 × Int32 × Int32 × Int32 × Int32 × Int32 × Int32 × Int32 × Int32 × Int32 × Int32) : va_W := [(h_t, .inr (3, [.int r.2.1, .int r.2.2.1, .int r.2.2.2.1, .int r.2.2.2.2.1, .int r.2.2.2.2.2.1])), (h_a1, .inr (5, [.ref h_a1_bytes, .int a1_length])), (h_a1_bytes, jB D 200 a1_bytes_), (h_a2, .inr (2, [.int r.2.2.2.2.2.2.1, .int r.2.2.2.2.2.2.2.1, .int r.2.2.2.2.2.2.2.2.1, .int r.2.2.2.2.2.2.2.2.2.1, .int r.2.2.2.2.2.2.2.2.2.2.1, .int r.2.2.2.2.2.2.2.2.2.2.2.1, .int r.2.2.2.2.2.2.2.2.2.2.2.2.1, .int r.2.2.2.2.2.2.2.2.2.2.2.2.2, .int a2_all, .int a2_firstColumn, .int a2_fitsAtFirst, .int a2_paintingsOf0, .int a2_paintingsOf1, .ref h_a2_ruledOut]))]
set_option maxHeartbeats 40000000 in
set_option maxRecDepth 100000 in
theorem mX4_item (l : Launch) (D : jv_D) (F : Nat) (h_t : Nat) (h_a1 : Nat) (h_a2 : Nat) (h_a1_bytes : Nat) (h_a2_ruledOut : Nat) (t_at : Int32) (t_first : Int32) (t_second : Int32) (t_stoneTold : Int32) (t_paintTold : Int32) (a1_length : Int32) (a1_bytes_ : Nat → Int32) (a2_rows : Int32) (a2_columns : Int32) (a2_paints : Int32) (a2_apart : Int32) (a2_paintsOf0 : Int32) (a2_paintsOf1 : Int32) (a2_old : Int32) (a2_shut : Int32) (a2_all : Int32) (a2_firstColumn : Int32) (a2_fitsAtFirst : Int32) (a2_paintingsOf0 : Int32) (a2_paintingsOf1 : Int32) (r : Int32 × Int32 × Int32 × Int32 × Int32 × Int32 × Int32 × Int32 × Int32 × Int32 × Int32 × Int32 × Int32 × Int32) (h : fX4_item F t_at t_first t_second t_stoneTold t_paintTold a1_length a1_bytes_ a2_rows a2_columns a2_paints a2_apart a2_paintsOf0 a2_paintsOf1 a2_old a2_shut = some r) : MM l yX4_item (jW yX4_item cX4_item 4 (some .boolean)) ({ frames := 4, cells := 0, slots := 0, locals := 87 }) D [.ref h_t, .ref h_a1, .ref h_a2] [(h_t, .inr (3, [.int t_at, .int t_first, .int t_second, .int t_stoneTold, .int t_paintTold])), (h_a1, .inr (5, [.ref h_a1_bytes, .int a1_length])), (h_a1_bytes, jB D 200 a1_bytes_), (h_a2, .inr (2, [.int a2_rows, .int a2_columns, .int a2_paints, .int a2_apart, .int a2_paintsOf0, .int a2_paintsOf1, .int a2_old, .int a2_shut, .int a2_all, .int a2_firstColumn, .int a2_fitsAtFirst, .int a2_paintingsOf0, .int a2_paintingsOf1, .ref h_a2_ruledOut]))] (some (.int r.1)) (oX4_item D h_t h_a1 h_a2 h_a1_bytes h_a2_ruledOut a1_length a1_bytes_ a2_all a2_firstColumn a2_fitsAtFirst a2_paintingsOf0 a2_paintingsOf1 r) := by
  refine mn_of hpX4_item (Nat.le_of_ble_eq_true rfl) ?_
  intro X hXl C E0 hN
  subst hXl
  replace C : JC D X 4 RX4 cX4_item ({ frames := 4, cells := 0, slots := 0, locals := 87 }) := C
  have E : JE D X 0 0 (some .boolean) (fun _ : Unit => (some (.int r.1))) (fun _ : Unit => (oX4_item D h_t h_a1 h_a2 h_a1_bytes h_a2_ruledOut a1_length a1_bytes_ a2_all a2_firstColumn a2_fitsAtFirst a2_paintingsOf0 a2_paintingsOf1 r)) := E0 0 0 rfl rfl
  clear E0 hN
  show JJ D X 4 0 0 0 [(0, .ref h_t), (1, .ref h_a1), (2, .ref h_a2)] [] [(h_t, .inr (3, [.int t_at, .int t_first, .int t_second, .int t_stoneTold, .int t_paintTold])), (h_a1, .inr (5, [.ref h_a1_bytes, .int a1_length])), (h_a1_bytes, jB D 200 a1_bytes_), (h_a2, .inr (2, [.int a2_rows, .int a2_columns, .int a2_paints, .int a2_apart, .int a2_paintsOf0, .int a2_paintsOf1, .int a2_old, .int a2_shut, .int a2_all, .int a2_firstColumn, .int a2_fitsAtFirst, .int a2_paintingsOf0, .int a2_paintingsOf1, .ref h_a2_ruledOut]))]
  unfold fX4_item at h
  have L83 : ∀ (x44 : Int32) (m_t_at_45 : Int32) (m_t_first_46 : Int32) (m_t_second_47 : Int32) (m_t_stoneTold_48 : Int32) (m_t_paintTold_49 : Int32) (m_a2_rows_50 : Int32) (m_a2_columns_51 : Int32) (m_a2_paints_52 : Int32) (m_a2_apart_53 : Int32) (m_a2_paintsOf0_54 : Int32) (m_a2_paintsOf1_55 : Int32) (m_a2_old_56 : Int32) (m_a2_shut_57 : Int32), fX4_item_83 F a1_length a1_bytes_  x44 m_t_at_45 m_t_first_46 m_t_second_47 m_t_stoneTold_48 m_t_paintTold_49 m_a2_rows_50 m_a2_columns_51 m_a2_paints_52 m_a2_apart_53 m_a2_paintsOf0_54 m_a2_paintsOf1_55 m_a2_old_56 m_a2_shut_57 = some r → JJ D X 4 0 0 83 [(0, .ref h_t), (2, .ref h_a2), (3, .int x44)] [] [(h_t, .inr (3, [.int m_t_at_45, .int m_t_first_46, .int m_t_second_47, .int m_t_stoneTold_48, .int m_t_paintTold_49])), (h_a1, .inr (5, [.ref h_a1_bytes, .int a1_length])), (h_a1_bytes, jB D 200 a1_bytes_), (h_a2, .inr (2, [.int m_a2_rows_50, .int m_a2_columns_51, .int m_a2_paints_52, .int m_a2_apart_53, .int m_a2_paintsOf0_54, .int m_a2_paintsOf1_55, .int m_a2_old_56, .int m_a2_shut_57, .int a2_all, .int a2_firstColumn, .int a2_fitsAtFirst, .int a2_paintingsOf0, .int a2_paintingsOf1, .ref h_a2_ruledOut]))] := by
    intro x44 m_t_at_45 m_t_first_46 m_t_second_47 m_t_stoneTold_48 m_t_paintTold_49 m_a2_rows_50 m_a2_columns_51 m_a2_paints_52 m_a2_apart_53 m_a2_paintsOf0_54 m_a2_paintsOf1_55 m_a2_old_56 m_a2_shut_57 h
    unfold fX4_item_83 at h
    refine j_aload_n C dX4_item_83 rfl 0 rfl ?_
    refine j_get C ibX4 (ci := 3) 0 rfl rfl 1 (by decide) bfX4_46 (v := .int m_t_first_46) rfl dX4_item_84 ?_
    refine j_if_lt C (tgt := 110) dX4_item_87 (by decide) h (fun c58 h => ?_) (fun c58 h => ?_)
    · refine j_iconst C dX4_item_110 (v := (0 : Int32)) (by decide) ?_
      exact j_zretR C (r := r) (rtf := fun r => (some (.int r.1))) (wff := fun r => (oX4_item D h_t h_a1 h_a2 h_a1_bytes h_a2_ruledOut a1_length a1_bytes_ a2_all a2_firstColumn a2_fitsAtFirst a2_paintingsOf0 a2_paintingsOf1 r)) E rfl h rfl rfl dX4_item_111
    · refine j_aload_n C dX4_item_90 rfl 0 rfl ?_
      refine j_get C ibX4 (ci := 3) 0 rfl rfl 2 (by decide) bfX4_39 (v := .int m_t_second_47) rfl dX4_item_91 ?_
      refine j_if_lt C (tgt := 110) dX4_item_94 (by decide) h (fun c59 h => ?_) (fun c59 h => ?_)
      · refine j_iconst C dX4_item_110 (v := (0 : Int32)) (by decide) ?_
        exact j_zretR C (r := r) (rtf := fun r => (some (.int r.1))) (wff := fun r => (oX4_item D h_t h_a1 h_a2 h_a1_bytes h_a2_ruledOut a1_length a1_bytes_ a2_all a2_firstColumn a2_fitsAtFirst a2_paintingsOf0 a2_paintingsOf1 r)) E rfl h rfl rfl dX4_item_111
      · refine j_aload_n C dX4_item_97 rfl 0 rfl ?_
        refine j_iload_n C dX4_item_98 rfl 2 rfl ?_
        refine j_aload_n C dX4_item_99 rfl 1 rfl ?_
        obtain ⟨r60, q61, h⟩ := jl_bind h
        refine j_cV1 C (mX4_takes (jlaunch X) D h_t h_a2 h_a2_ruledOut m_t_at_45 m_t_first_46 m_t_second_47 m_t_stoneTold_48 m_t_paintTold_49 m_a2_rows_50 m_a2_columns_51 m_a2_paints_52 m_a2_apart_53 m_a2_paintsOf0_54 m_a2_paintsOf1_55 m_a2_old_56 m_a2_shut_57 a2_all a2_firstColumn a2_fitsAtFirst a2_paintingsOf0 a2_paintingsOf1 x44 r60 q61) bmX4_49 biX4_takes bsX4_takes bzX4 bcX4_takes rfl hX4_takes (rest := []) rfl (jroom_of rfl) 0 (ci := 3) rfl rfl rfl [0, 3] [1, 2] [2, 0, 1, 3] (wr := [(h_a1, .inr (5, [.ref h_a1_bytes, .int a1_length])), (h_a1_bytes, jB D 200 a1_bytes_)]) (ws2 := [(h_t, .inr (3, [.int m_t_at_45, .int m_t_first_46, .int m_t_second_47, .int r60.2.1, .int r60.2.2.1])), (h_a1, .inr (5, [.ref h_a1_bytes, .int a1_length])), (h_a1_bytes, jB D 200 a1_bytes_), (h_a2, .inr (2, [.int r60.2.2.2.1, .int r60.2.2.2.2.1, .int r60.2.2.2.2.2.1, .int r60.2.2.2.2.2.2.1, .int r60.2.2.2.2.2.2.2.1, .int r60.2.2.2.2.2.2.2.2.1, .int r60.2.2.2.2.2.2.2.2.2.1, .int r60.2.2.2.2.2.2.2.2.2.2, .int a2_all, .int a2_firstColumn, .int a2_fitsAtFirst, .int a2_paintingsOf0, .int a2_paintingsOf1, .ref h_a2_ruledOut]))]) rfl rfl rfl rfl rfl (Nat.le_of_ble_eq_true rfl) dX4_item_100 ?_
        refine j_if_eq C (tgt := 110) dX4_item_103 (by decide) h (fun c62 h => ?_) (fun c62 h => ?_)
        · refine j_iconst C dX4_item_110 (v := (0 : Int32)) (by decide) ?_
          exact j_zretR C (r := r) (rtf := fun r => (some (.int r.1))) (wff := fun r => (oX4_item D h_t h_a1 h_a2 h_a1_bytes h_a2_ruledOut a1_length a1_bytes_ a2_all a2_firstColumn a2_fitsAtFirst a2_paintingsOf0 a2_paintingsOf1 r)) E rfl h rfl rfl dX4_item_111
        · refine j_iconst C dX4_item_106 (v := (1 : Int32)) (by decide) ?_
          refine j_goto C dX4_item_107 (tgt := 111) (by decide) ?_
          exact j_zretR C (r := r) (rtf := fun r => (some (.int r.1))) (wff := fun r => (oX4_item D h_t h_a1 h_a2 h_a1_bytes h_a2_ruledOut a1_length a1_bytes_ a2_all a2_firstColumn a2_fitsAtFirst a2_paintingsOf0 a2_paintingsOf1 r)) E rfl h rfl rfl dX4_item_111
  have L36 : ∀ (x5 : Int32) (m_t_at_6 : Int32) (m_t_first_7 : Int32) (m_t_second_8 : Int32) (m_t_stoneTold_9 : Int32) (m_t_paintTold_10 : Int32) (m_a2_rows_11 : Int32) (m_a2_columns_12 : Int32) (m_a2_paints_13 : Int32) (m_a2_apart_14 : Int32) (m_a2_paintsOf0_15 : Int32) (m_a2_paintsOf1_16 : Int32) (m_a2_old_17 : Int32) (m_a2_shut_18 : Int32), fX4_item_36 F a1_length a1_bytes_  x5 m_t_at_6 m_t_first_7 m_t_second_8 m_t_stoneTold_9 m_t_paintTold_10 m_a2_rows_11 m_a2_columns_12 m_a2_paints_13 m_a2_apart_14 m_a2_paintsOf0_15 m_a2_paintsOf1_16 m_a2_old_17 m_a2_shut_18 = some r → JJ D X 4 0 0 36 [(0, .ref h_t), (1, .ref h_a1), (2, .ref h_a2), (3, .int x5)] [] [(h_t, .inr (3, [.int m_t_at_6, .int m_t_first_7, .int m_t_second_8, .int m_t_stoneTold_9, .int m_t_paintTold_10])), (h_a1, .inr (5, [.ref h_a1_bytes, .int a1_length])), (h_a1_bytes, jB D 200 a1_bytes_), (h_a2, .inr (2, [.int m_a2_rows_11, .int m_a2_columns_12, .int m_a2_paints_13, .int m_a2_apart_14, .int m_a2_paintsOf0_15, .int m_a2_paintsOf1_16, .int m_a2_old_17, .int m_a2_shut_18, .int a2_all, .int a2_firstColumn, .int a2_fitsAtFirst, .int a2_paintingsOf0, .int a2_paintingsOf1, .ref h_a2_ruledOut]))] := by
    intro x5 m_t_at_6 m_t_first_7 m_t_second_8 m_t_stoneTold_9 m_t_paintTold_10 m_a2_rows_11 m_a2_columns_12 m_a2_paints_13 m_a2_apart_14 m_a2_paintsOf0_15 m_a2_paintsOf1_16 m_a2_old_17 m_a2_shut_18 h
    unfold fX4_item_36 at h
    refine j_aload_n C dX4_item_36 rfl 0 rfl ?_
    refine j_aload_n C dX4_item_37 rfl 0 rfl ?_
    refine j_aload_n C dX4_item_38 rfl 1 rfl ?_
    refine j_bipush C dX4_item_39 (v := (59 : Int32)) (by decide) ?_
    obtain ⟨r41, q42, h⟩ := jl_bind h
    refine j_cV1 C (mX4_number (jlaunch X) D F h_t h_a1 h_a1_bytes m_t_at_6 m_t_first_7 m_t_second_8 m_t_stoneTold_9 m_t_paintTold_10 a1_length a1_bytes_ ((59 : Int32)) r41 q42) bmX4_42 biX4_number bsX4_number bzX4 bcX4_number rfl hX4_number (rest := [.ref h_t]) rfl (jroom_of rfl) 0 (ci := 3) rfl rfl rfl [0, 1, 2] [3] [1, 2, 3, 0] (wr := [(h_a2, .inr (2, [.int m_a2_rows_11, .int m_a2_columns_12, .int m_a2_paints_13, .int m_a2_apart_14, .int m_a2_paintsOf0_15, .int m_a2_paintsOf1_16, .int m_a2_old_17, .int m_a2_shut_18, .int a2_all, .int a2_firstColumn, .int a2_fitsAtFirst, .int a2_paintingsOf0, .int a2_paintingsOf1, .ref h_a2_ruledOut]))]) (ws2 := [(h_t, .inr (3, [.int r41.2, .int m_t_first_7, .int m_t_second_8, .int m_t_stoneTold_9, .int m_t_paintTold_10])), (h_a1, .inr (5, [.ref h_a1_bytes, .int a1_length])), (h_a1_bytes, jB D 200 a1_bytes_), (h_a2, .inr (2, [.int m_a2_rows_11, .int m_a2_columns_12, .int m_a2_paints_13, .int m_a2_apart_14, .int m_a2_paintsOf0_15, .int m_a2_paintsOf1_16, .int m_a2_old_17, .int m_a2_shut_18, .int a2_all, .int a2_firstColumn, .int a2_fitsAtFirst, .int a2_paintingsOf0, .int a2_paintingsOf1, .ref h_a2_ruledOut]))]) rfl rfl rfl rfl rfl (Nat.le_of_ble_eq_true rfl) dX4_item_41 ?_
    refine j_nmi h (fun w43 h => ?_)
    refine j_put C ibX4 tyX4 tyX4_ok nmX4 (ci := 3) 0 rfl rfl 1 (by decide) bfX4_46 rfl rfl rfl (Nat.le_of_ble_eq_true rfl) dX4_item_44 (ws' := [(h_t, .inr (3, [.int r41.2, .int w43, .int m_t_second_8, .int m_t_stoneTold_9, .int m_t_paintTold_10])), (h_a1, .inr (5, [.ref h_a1_bytes, .int a1_length])), (h_a1_bytes, jB D 200 a1_bytes_), (h_a2, .inr (2, [.int m_a2_rows_11, .int m_a2_columns_12, .int m_a2_paints_13, .int m_a2_apart_14, .int m_a2_paintsOf0_15, .int m_a2_paintsOf1_16, .int m_a2_old_17, .int m_a2_shut_18, .int a2_all, .int a2_firstColumn, .int a2_fitsAtFirst, .int a2_paintingsOf0, .int a2_paintingsOf1, .ref h_a2_ruledOut]))]) rfl ?_
    refine j_goto C dX4_item_47 (tgt := 83) (by decide) ?_
    refine j_sub (lv' := [(0, .ref h_t), (2, .ref h_a2), (3, .int x5)]) [0, 2, 3] rfl ?_
    exact L83 x5 r41.2 w43 m_t_second_8 m_t_stoneTold_9 m_t_paintTold_10 m_a2_rows_11 m_a2_columns_12 m_a2_paints_13 m_a2_apart_14 m_a2_paintsOf0_15 m_a2_paintsOf1_16 m_a2_old_17 m_a2_shut_18 h
  have L80 : ∀ (x26 : Int32) (s27 : Int32) (m_t_at_28 : Int32) (m_t_first_29 : Int32) (m_t_second_30 : Int32) (m_t_stoneTold_31 : Int32) (m_t_paintTold_32 : Int32) (m_a2_rows_33 : Int32) (m_a2_columns_34 : Int32) (m_a2_paints_35 : Int32) (m_a2_apart_36 : Int32) (m_a2_paintsOf0_37 : Int32) (m_a2_paintsOf1_38 : Int32) (m_a2_old_39 : Int32) (m_a2_shut_40 : Int32), fX4_item_80 F a1_length a1_bytes_  x26 s27 m_t_at_28 m_t_first_29 m_t_second_30 m_t_stoneTold_31 m_t_paintTold_32 m_a2_rows_33 m_a2_columns_34 m_a2_paints_35 m_a2_apart_36 m_a2_paintsOf0_37 m_a2_paintsOf1_38 m_a2_old_39 m_a2_shut_40 = some r → JJ D X 4 0 0 80 [(0, .ref h_t), (2, .ref h_a2), (3, .int x26)] [.int s27, .ref h_t] [(h_t, .inr (3, [.int m_t_at_28, .int m_t_first_29, .int m_t_second_30, .int m_t_stoneTold_31, .int m_t_paintTold_32])), (h_a1, .inr (5, [.ref h_a1_bytes, .int a1_length])), (h_a1_bytes, jB D 200 a1_bytes_), (h_a2, .inr (2, [.int m_a2_rows_33, .int m_a2_columns_34, .int m_a2_paints_35, .int m_a2_apart_36, .int m_a2_paintsOf0_37, .int m_a2_paintsOf1_38, .int m_a2_old_39, .int m_a2_shut_40, .int a2_all, .int a2_firstColumn, .int a2_fitsAtFirst, .int a2_paintingsOf0, .int a2_paintingsOf1, .ref h_a2_ruledOut]))] := by
    intro x26 s27 m_t_at_28 m_t_first_29 m_t_second_30 m_t_stoneTold_31 m_t_paintTold_32 m_a2_rows_33 m_a2_columns_34 m_a2_paints_35 m_a2_apart_36 m_a2_paintsOf0_37 m_a2_paintsOf1_38 m_a2_old_39 m_a2_shut_40 h
    unfold fX4_item_80 at h
    refine j_put C ibX4 tyX4 tyX4_ok nmX4 (ci := 3) 0 rfl rfl 2 (by decide) bfX4_39 rfl rfl rfl (Nat.le_of_ble_eq_true rfl) dX4_item_80 (ws' := [(h_t, .inr (3, [.int m_t_at_28, .int m_t_first_29, .int s27, .int m_t_stoneTold_31, .int m_t_paintTold_32])), (h_a1, .inr (5, [.ref h_a1_bytes, .int a1_length])), (h_a1_bytes, jB D 200 a1_bytes_), (h_a2, .inr (2, [.int m_a2_rows_33, .int m_a2_columns_34, .int m_a2_paints_35, .int m_a2_apart_36, .int m_a2_paintsOf0_37, .int m_a2_paintsOf1_38, .int m_a2_old_39, .int m_a2_shut_40, .int a2_all, .int a2_firstColumn, .int a2_fitsAtFirst, .int a2_paintingsOf0, .int a2_paintingsOf1, .ref h_a2_ruledOut]))]) rfl ?_
    refine j_sub (lv' := [(0, .ref h_t), (2, .ref h_a2), (3, .int x26)]) [0, 1, 2] rfl ?_
    exact L83 x26 m_t_at_28 m_t_first_29 s27 m_t_stoneTold_31 m_t_paintTold_32 m_a2_rows_33 m_a2_columns_34 m_a2_paints_35 m_a2_apart_36 m_a2_paintsOf0_37 m_a2_paintsOf1_38 m_a2_old_39 m_a2_shut_40 h
  refine j_aload_n C dX4_item_0 rfl 1 rfl ?_
  refine j_aload_n C dX4_item_1 rfl 0 rfl ?_
  refine j_get C ibX4 (ci := 3) 0 rfl rfl 0 (by decide) bfX4_14 (v := .int t_at) rfl dX4_item_2 ?_
  obtain ⟨r1, q2, h⟩ := jl_bind h
  refine j_cV1 C (mX6_at (jlaunch X) D h_a1 h_a1_bytes a1_length a1_bytes_ t_at r1 q2) bmX4_36 biX6_at bsX6_at bzX6 bcX6_at rfl hX6_at (rest := []) rfl (jroom_of rfl) 0 (ci := 5) rfl rfl rfl [1, 2] [0, 3] [0, 2, 3, 1] (wr := [(h_t, .inr (3, [.int t_at, .int t_first, .int t_second, .int t_stoneTold, .int t_paintTold])), (h_a2, .inr (2, [.int a2_rows, .int a2_columns, .int a2_paints, .int a2_apart, .int a2_paintsOf0, .int a2_paintsOf1, .int a2_old, .int a2_shut, .int a2_all, .int a2_firstColumn, .int a2_fitsAtFirst, .int a2_paintingsOf0, .int a2_paintingsOf1, .ref h_a2_ruledOut]))]) (ws2 := [(h_t, .inr (3, [.int t_at, .int t_first, .int t_second, .int t_stoneTold, .int t_paintTold])), (h_a1, .inr (5, [.ref h_a1_bytes, .int a1_length])), (h_a1_bytes, jB D 200 a1_bytes_), (h_a2, .inr (2, [.int a2_rows, .int a2_columns, .int a2_paints, .int a2_apart, .int a2_paintsOf0, .int a2_paintsOf1, .int a2_old, .int a2_shut, .int a2_all, .int a2_firstColumn, .int a2_fitsAtFirst, .int a2_paintingsOf0, .int a2_paintingsOf1, .ref h_a2_ruledOut]))]) rfl rfl rfl rfl rfl (Nat.le_of_ble_eq_true rfl) dX4_item_5 ?_
  refine j_istore_nC C dX4_item_8 rfl (lv' := [(3, .int r1), (0, .ref h_t), (1, .ref h_a1), (2, .ref h_a2)]) (by decide) rfl ?_
  refine j_aload_n C dX4_item_9 rfl 1 rfl ?_
  refine j_dup C dX4_item_10 rfl ?_
  refine j_get C ibX4 (ci := 3) 0 rfl rfl 0 (by decide) bfX4_14 (v := .int t_at) rfl dX4_item_11 ?_
  refine j_iconst C dX4_item_14 (v := (1 : Int32)) (by decide) ?_
  refine j_iadd C dX4_item_15 ?_
  refine j_nmi h (fun w3 h => ?_)
  refine j_put C ibX4 tyX4 tyX4_ok nmX4 (ci := 3) 0 rfl rfl 0 (by decide) bfX4_14 rfl rfl rfl (Nat.le_of_ble_eq_true rfl) dX4_item_16 (ws' := [(h_t, .inr (3, [.int w3, .int t_first, .int t_second, .int t_stoneTold, .int t_paintTold])), (h_a1, .inr (5, [.ref h_a1_bytes, .int a1_length])), (h_a1_bytes, jB D 200 a1_bytes_), (h_a2, .inr (2, [.int a2_rows, .int a2_columns, .int a2_paints, .int a2_apart, .int a2_paintsOf0, .int a2_paintsOf1, .int a2_old, .int a2_shut, .int a2_all, .int a2_firstColumn, .int a2_fitsAtFirst, .int a2_paintingsOf0, .int a2_paintingsOf1, .ref h_a2_ruledOut]))]) rfl ?_
  refine j_aload_n C dX4_item_19 rfl 1 rfl ?_
  refine j_iconst C dX4_item_20 (v := (0 : Int32)) (by decide) ?_
  refine j_put C ibX4 tyX4 tyX4_ok nmX4 (ci := 3) 0 rfl rfl 2 (by decide) bfX4_39 rfl rfl rfl (Nat.le_of_ble_eq_true rfl) dX4_item_21 (ws' := [(h_t, .inr (3, [.int w3, .int t_first, .int ((0 : Int32)), .int t_stoneTold, .int t_paintTold])), (h_a1, .inr (5, [.ref h_a1_bytes, .int a1_length])), (h_a1_bytes, jB D 200 a1_bytes_), (h_a2, .inr (2, [.int a2_rows, .int a2_columns, .int a2_paints, .int a2_apart, .int a2_paintsOf0, .int a2_paintsOf1, .int a2_old, .int a2_shut, .int a2_all, .int a2_firstColumn, .int a2_fitsAtFirst, .int a2_paintingsOf0, .int a2_paintingsOf1, .ref h_a2_ruledOut]))]) rfl ?_
  refine j_iload_n C dX4_item_24 rfl 0 rfl ?_
  refine j_bipush C dX4_item_25 (v := (110 : Int32)) (by decide) ?_
  refine j_icmp_eq C (tgt := 36) dX4_item_27 (by decide) h (fun c4 h => ?_) (fun c4 h => ?_)
  · refine j_sub (lv' := [(0, .ref h_t), (1, .ref h_a1), (2, .ref h_a2), (3, .int r1)]) [1, 2, 3, 0] rfl ?_
    exact L36 r1 w3 t_first ((0 : Int32)) t_stoneTold t_paintTold a2_rows a2_columns a2_paints a2_apart a2_paintsOf0 a2_paintsOf1 a2_old a2_shut h
  · refine j_iload_n C dX4_item_30 rfl 0 rfl ?_
    refine j_bipush C dX4_item_31 (v := (119 : Int32)) (by decide) ?_
    refine j_icmp_ne C (tgt := 50) dX4_item_33 (by decide) h (fun c19 h => ?_) (fun c19 h => ?_)
    · refine j_sub (lv' := [(0, .ref h_t), (1, .ref h_a1), (2, .ref h_a2), (3, .int r1)]) [1, 2, 3, 0] rfl ?_
      exact L36 r1 w3 t_first ((0 : Int32)) t_stoneTold t_paintTold a2_rows a2_columns a2_paints a2_apart a2_paintsOf0 a2_paintsOf1 a2_old a2_shut h
    · refine j_aload_n C dX4_item_50 rfl 1 rfl ?_
      refine j_aload_n C dX4_item_51 rfl 1 rfl ?_
      refine j_aload_n C dX4_item_52 rfl 2 rfl ?_
      refine j_bipush C dX4_item_53 (v := (44 : Int32)) (by decide) ?_
      obtain ⟨r20, q21, h⟩ := jl_bind h
      refine j_cV1 C (mX4_number (jlaunch X) D F h_t h_a1 h_a1_bytes w3 t_first ((0 : Int32)) t_stoneTold t_paintTold a1_length a1_bytes_ ((44 : Int32)) r20 q21) bmX4_42 biX4_number bsX4_number bzX4 bcX4_number rfl hX4_number (rest := [.ref h_t]) rfl (jroom_of rfl) 0 (ci := 3) rfl rfl rfl [0, 1, 2] [3] [1, 2, 3, 0] (wr := [(h_a2, .inr (2, [.int a2_rows, .int a2_columns, .int a2_paints, .int a2_apart, .int a2_paintsOf0, .int a2_paintsOf1, .int a2_old, .int a2_shut, .int a2_all, .int a2_firstColumn, .int a2_fitsAtFirst, .int a2_paintingsOf0, .int a2_paintingsOf1, .ref h_a2_ruledOut]))]) (ws2 := [(h_t, .inr (3, [.int r20.2, .int t_first, .int ((0 : Int32)), .int t_stoneTold, .int t_paintTold])), (h_a1, .inr (5, [.ref h_a1_bytes, .int a1_length])), (h_a1_bytes, jB D 200 a1_bytes_), (h_a2, .inr (2, [.int a2_rows, .int a2_columns, .int a2_paints, .int a2_apart, .int a2_paintsOf0, .int a2_paintsOf1, .int a2_old, .int a2_shut, .int a2_all, .int a2_firstColumn, .int a2_fitsAtFirst, .int a2_paintingsOf0, .int a2_paintingsOf1, .ref h_a2_ruledOut]))]) rfl rfl rfl rfl rfl (Nat.le_of_ble_eq_true rfl) dX4_item_55 ?_
      refine j_nmi h (fun w22 h => ?_)
      refine j_put C ibX4 tyX4 tyX4_ok nmX4 (ci := 3) 0 rfl rfl 1 (by decide) bfX4_46 rfl rfl rfl (Nat.le_of_ble_eq_true rfl) dX4_item_58 (ws' := [(h_t, .inr (3, [.int r20.2, .int w22, .int ((0 : Int32)), .int t_stoneTold, .int t_paintTold])), (h_a1, .inr (5, [.ref h_a1_bytes, .int a1_length])), (h_a1_bytes, jB D 200 a1_bytes_), (h_a2, .inr (2, [.int a2_rows, .int a2_columns, .int a2_paints, .int a2_apart, .int a2_paintsOf0, .int a2_paintsOf1, .int a2_old, .int a2_shut, .int a2_all, .int a2_firstColumn, .int a2_fitsAtFirst, .int a2_paintingsOf0, .int a2_paintingsOf1, .ref h_a2_ruledOut]))]) rfl ?_
      refine j_aload_n C dX4_item_61 rfl 1 rfl ?_
      refine j_aload_n C dX4_item_62 rfl 1 rfl ?_
      refine j_get C ibX4 (ci := 3) 0 rfl rfl 1 (by decide) bfX4_46 (v := .int w22) rfl dX4_item_63 ?_
      refine j_if_ge C (tgt := 73) dX4_item_66 (by decide) h (fun c23 h => ?_) (fun c23 h => ?_)
      · refine j_aload_n C dX4_item_73 rfl 1 rfl ?_
        refine j_aload_n C dX4_item_74 rfl 2 rfl ?_
        refine j_bipush C dX4_item_75 (v := (59 : Int32)) (by decide) ?_
        obtain ⟨r24, q25, h⟩ := jl_bind h
        refine j_cV1 C (mX4_number (jlaunch X) D F h_t h_a1 h_a1_bytes r20.2 w22 ((0 : Int32)) t_stoneTold t_paintTold a1_length a1_bytes_ ((59 : Int32)) r24 q25) bmX4_42 biX4_number bsX4_number bzX4 bcX4_number rfl hX4_number (rest := [.ref h_t]) rfl (jroom_of rfl) 0 (ci := 3) rfl rfl rfl [0, 1, 2] [3] [1, 2, 3, 0] (wr := [(h_a2, .inr (2, [.int a2_rows, .int a2_columns, .int a2_paints, .int a2_apart, .int a2_paintsOf0, .int a2_paintsOf1, .int a2_old, .int a2_shut, .int a2_all, .int a2_firstColumn, .int a2_fitsAtFirst, .int a2_paintingsOf0, .int a2_paintingsOf1, .ref h_a2_ruledOut]))]) (ws2 := [(h_t, .inr (3, [.int r24.2, .int w22, .int ((0 : Int32)), .int t_stoneTold, .int t_paintTold])), (h_a1, .inr (5, [.ref h_a1_bytes, .int a1_length])), (h_a1_bytes, jB D 200 a1_bytes_), (h_a2, .inr (2, [.int a2_rows, .int a2_columns, .int a2_paints, .int a2_apart, .int a2_paintsOf0, .int a2_paintsOf1, .int a2_old, .int a2_shut, .int a2_all, .int a2_firstColumn, .int a2_fitsAtFirst, .int a2_paintingsOf0, .int a2_paintingsOf1, .ref h_a2_ruledOut]))]) rfl rfl rfl rfl rfl (Nat.le_of_ble_eq_true rfl) dX4_item_77 ?_
        refine j_sub (lv' := [(0, .ref h_t), (2, .ref h_a2), (3, .int r1)]) [1, 3, 0] rfl ?_
        exact L80 r1 r24.1 r24.2 w22 ((0 : Int32)) t_stoneTold t_paintTold a2_rows a2_columns a2_paints a2_apart a2_paintsOf0 a2_paintsOf1 a2_old a2_shut h
      · refine j_iconst C dX4_item_69 (v := (-1 : Int32)) (by decide) ?_
        refine j_goto C dX4_item_70 (tgt := 80) (by decide) ?_
        refine j_sub (lv' := [(0, .ref h_t), (2, .ref h_a2), (3, .int r1)]) [1, 3, 0] rfl ?_
        exact L80 r1 ((-1 : Int32)) r20.2 w22 ((0 : Int32)) t_stoneTold t_paintTold a2_rows a2_columns a2_paints a2_apart a2_paintsOf0 a2_paintsOf1 a2_old a2_shut h
theorem dX4_faultIn_0 : decode cX4_faultIn 0 = .ok (.aload_n 2, 1) := by decide +kernel
theorem dX4_faultIn_1 : decode cX4_faultIn 1 = .ok (.invokevirtual 9, 3) := by decide +kernel
theorem dX4_faultIn_4 : decode cX4_faultIn 4 = .ok (.aload_n 0, 1) := by decide +kernel
theorem dX4_faultIn_5 : decode cX4_faultIn 5 = .ok (.iconst 0, 1) := by decide +kernel
theorem dX4_faultIn_6 : decode cX4_faultIn 6 = .ok (.putfield 14, 3) := by decide +kernel
theorem dX4_faultIn_9 : decode cX4_faultIn 9 = .ok (.aload_n 0, 1) := by decide +kernel
theorem dX4_faultIn_10 : decode cX4_faultIn 10 = .ok (.iconst 0, 1) := by decide +kernel
theorem dX4_faultIn_11 : decode cX4_faultIn 11 = .ok (.putfield 20, 3) := by decide +kernel
theorem dX4_faultIn_14 : decode cX4_faultIn 14 = .ok (.aload_n 0, 1) := by decide +kernel
theorem dX4_faultIn_15 : decode cX4_faultIn 15 = .ok (.iconst 0, 1) := by decide +kernel
theorem dX4_faultIn_16 : decode cX4_faultIn 16 = .ok (.putfield 24, 3) := by decide +kernel
theorem dX4_faultIn_19 : decode cX4_faultIn 19 = .ok (.iconst 0, 1) := by decide +kernel
theorem dX4_faultIn_20 : decode cX4_faultIn 20 = .ok (.istore_n 3, 1) := by decide +kernel
theorem dX4_faultIn_21 : decode cX4_faultIn 21 = .ok (.iload_n 3, 1) := by decide +kernel
theorem dX4_faultIn_22 : decode cX4_faultIn 22 = .ok (.sipush 200, 3) := by decide +kernel
theorem dX4_faultIn_25 : decode cX4_faultIn 25 = .ok (.if_icmp .ge 38, 3) := by decide +kernel
theorem dX4_faultIn_28 : decode cX4_faultIn 28 = .ok (.aload_n 0, 1) := by decide +kernel
theorem dX4_faultIn_29 : decode cX4_faultIn 29 = .ok (.getfield 14, 3) := by decide +kernel
theorem dX4_faultIn_32 : decode cX4_faultIn 32 = .ok (.aload_n 1, 1) := by decide +kernel
theorem dX4_faultIn_33 : decode cX4_faultIn 33 = .ok (.getfield 29, 3) := by decide +kernel
theorem dX4_faultIn_36 : decode cX4_faultIn 36 = .ok (.if_icmp .ge 27, 3) := by decide +kernel
theorem dX4_faultIn_39 : decode cX4_faultIn 39 = .ok (.aload_n 0, 1) := by decide +kernel
theorem dX4_faultIn_40 : decode cX4_faultIn 40 = .ok (.getfield 14, 3) := by decide +kernel
theorem dX4_faultIn_43 : decode cX4_faultIn 43 = .ok (.istore 4, 2) := by decide +kernel
theorem dX4_faultIn_45 : decode cX4_faultIn 45 = .ok (.aload_n 0, 1) := by decide +kernel
theorem dX4_faultIn_46 : decode cX4_faultIn 46 = .ok (.aload_n 1, 1) := by decide +kernel
theorem dX4_faultIn_47 : decode cX4_faultIn 47 = .ok (.aload_n 2, 1) := by decide +kernel
theorem dX4_faultIn_48 : decode cX4_faultIn 48 = .ok (.invokevirtual 32, 3) := by decide +kernel
theorem dX4_faultIn_51 : decode cX4_faultIn 51 = .ok (.ifCond .ne 6, 3) := by decide +kernel
theorem dX4_faultIn_54 : decode cX4_faultIn 54 = .ok (.iload 4, 2) := by decide +kernel
theorem dX4_faultIn_56 : decode cX4_faultIn 56 = .ok (.ireturn, 1) := by decide +kernel
theorem dX4_faultIn_57 : decode cX4_faultIn 57 = .ok (.iinc 3 1, 3) := by decide +kernel
theorem dX4_faultIn_60 : decode cX4_faultIn 60 = .ok (.goto (-39), 3) := by decide +kernel
theorem dX4_faultIn_63 : decode cX4_faultIn 63 = .ok (.bipush (-4), 2) := by decide +kernel
theorem dX4_faultIn_65 : decode cX4_faultIn 65 = .ok (.ireturn, 1) := by decide +kernel
def bX4_faultIn_21 (F : Nat) (a1_length : Int32) (a1_bytes_ : Nat → Int32)  (k21 : Int32 → Int32 → Int32 → Int32 → Int32 → Int32 → Int32 → Int32 → Int32 → Int32 → Int32 → Int32 → Int32 → Int32 → Option (Int32 × Int32 × Int32 × Int32 × Int32 × Int32 × Int32 × Int32 × Int32 × Int32 × Int32 × Int32 × Int32 × Int32)) (x3 : Int32) (m_t_at_4 : Int32) (m_t_first_5 : Int32) (m_t_second_6 : Int32) (m_t_stoneTold_7 : Int32) (m_t_paintTold_8 : Int32) (m_a2_rows_9 : Int32) (m_a2_columns_10 : Int32) (m_a2_paints_11 : Int32) (m_a2_apart_12 : Int32) (m_a2_paintsOf0_13 : Int32) (m_a2_paintsOf1_14 : Int32) (m_a2_old_15 : Int32) (m_a2_shut_16 : Int32) : Option (Int32 × Int32 × Int32 × Int32 × Int32 × Int32 × Int32 × Int32 × Int32 × Int32 × Int32 × Int32 × Int32 × Int32) :=
(if ((200 : Int32)) ≤ x3 then
(some ((-4 : Int32), m_t_at_4, m_t_first_5, m_t_second_6, m_t_stoneTold_7, m_t_paintTold_8, m_a2_rows_9, m_a2_columns_10, m_a2_paints_11, m_a2_apart_12, m_a2_paintsOf0_13, m_a2_paintsOf1_14, m_a2_old_15, m_a2_shut_16))
else
(if a1_length ≤ m_t_at_4 then
(some ((-4 : Int32), m_t_at_4, m_t_first_5, m_t_second_6, m_t_stoneTold_7, m_t_paintTold_8, m_a2_rows_9, m_a2_columns_10, m_a2_paints_11, m_a2_apart_12, m_a2_paintsOf0_13, m_a2_paintsOf1_14, m_a2_old_15, m_a2_shut_16))
else
((fX4_item F m_t_at_4 m_t_first_5 m_t_second_6 m_t_stoneTold_7 m_t_paintTold_8 a1_length a1_bytes_ m_a2_rows_9 m_a2_columns_10 m_a2_paints_11 m_a2_apart_12 m_a2_paintsOf0_13 m_a2_paintsOf1_14 m_a2_old_15 m_a2_shut_16).bind fun r19 =>
(if r19.1 = 0 then
(some (m_t_at_4, r19.2.1, r19.2.2.1, r19.2.2.2.1, r19.2.2.2.2.1, r19.2.2.2.2.2.1, r19.2.2.2.2.2.2.1, r19.2.2.2.2.2.2.2.1, r19.2.2.2.2.2.2.2.2.1, r19.2.2.2.2.2.2.2.2.2.1, r19.2.2.2.2.2.2.2.2.2.2.1, r19.2.2.2.2.2.2.2.2.2.2.2.1, r19.2.2.2.2.2.2.2.2.2.2.2.2.1, r19.2.2.2.2.2.2.2.2.2.2.2.2.2))
else
(jl_let (x3 + Int32.ofInt (1)) fun v22 =>
(k21 v22 r19.2.1 r19.2.2.1 r19.2.2.2.1 r19.2.2.2.2.1 r19.2.2.2.2.2.1 r19.2.2.2.2.2.2.1 r19.2.2.2.2.2.2.2.1 r19.2.2.2.2.2.2.2.2.1 r19.2.2.2.2.2.2.2.2.2.1 r19.2.2.2.2.2.2.2.2.2.2.1 r19.2.2.2.2.2.2.2.2.2.2.2.1 r19.2.2.2.2.2.2.2.2.2.2.2.2.1 r19.2.2.2.2.2.2.2.2.2.2.2.2.2))))))
def lX4_faultIn_21 (F : Nat) (a1_length : Int32) (a1_bytes_ : Nat → Int32)  (F2 : Nat) (x3 : Int32) (m_t_at_4 : Int32) (m_t_first_5 : Int32) (m_t_second_6 : Int32) (m_t_stoneTold_7 : Int32) (m_t_paintTold_8 : Int32) (m_a2_rows_9 : Int32) (m_a2_columns_10 : Int32) (m_a2_paints_11 : Int32) (m_a2_apart_12 : Int32) (m_a2_paintsOf0_13 : Int32) (m_a2_paintsOf1_14 : Int32) (m_a2_old_15 : Int32) (m_a2_shut_16 : Int32) : Option (Int32 × Int32 × Int32 × Int32 × Int32 × Int32 × Int32 × Int32 × Int32 × Int32 × Int32 × Int32 × Int32 × Int32) := jl_loop14 (bX4_faultIn_21 F a1_length a1_bytes_ ) F2 x3 m_t_at_4 m_t_first_5 m_t_second_6 m_t_stoneTold_7 m_t_paintTold_8 m_a2_rows_9 m_a2_columns_10 m_a2_paints_11 m_a2_apart_12 m_a2_paintsOf0_13 m_a2_paintsOf1_14 m_a2_old_15 m_a2_shut_16
def fX4_faultIn (F : Nat) (t_at : Int32) (t_first : Int32) (t_second : Int32) (t_stoneTold : Int32) (t_paintTold : Int32) (a1_length : Int32) (a1_bytes_ : Nat → Int32) (a2_rows : Int32) (a2_columns : Int32) (a2_paints : Int32) (a2_apart : Int32) (a2_paintsOf0 : Int32) (a2_paintsOf1 : Int32) (a2_old : Int32) (a2_shut : Int32) : Option (Int32 × Int32 × Int32 × Int32 × Int32 × Int32 × Int32 × Int32 × Int32 × Int32 × Int32 × Int32 × Int32 × Int32) :=
((fX3_clear a2_rows a2_columns a2_paints a2_apart a2_paintsOf0 a2_paintsOf1 a2_old a2_shut).bind fun r1 =>
(lX4_faultIn_21 F a1_length a1_bytes_ F ((0 : Int32)) ((0 : Int32)) t_first t_second ((0 : Int32)) ((0 : Int32)) r1.1 r1.2.1 r1.2.2.1 r1.2.2.2.1 r1.2.2.2.2.1 r1.2.2.2.2.2.1 r1.2.2.2.2.2.2.1 r1.2.2.2.2.2.2.2))
def oX4_faultIn (D : jv_D) (h_t : Nat) (h_a1 : Nat) (h_a2 : Nat) (h_a1_bytes : Nat) (h_a2_ruledOut : Nat) (a1_length : Int32) (a1_bytes_ : Nat → Int32) (a2_all : Int32) (a2_firstColumn : Int32) (a2_fitsAtFirst : Int32) (a2_paintingsOf0 : Int32) (a2_paintingsOf1 : Int32) (r : Int32 × Int32 × Int32 × Int32 × Int32 × Int32 × Int32 × Int32 × Int32 × Int32 × Int32 × Int32 × Int32 × Int32) : va_W := [(h_t, .inr (3, [.int r.2.1, .int r.2.2.1, .int r.2.2.2.1, .int r.2.2.2.2.1, .int r.2.2.2.2.2.1])), (h_a1, .inr (5, [.ref h_a1_bytes, .int a1_length])), (h_a1_bytes, jB D 200 a1_bytes_), (h_a2, .inr (2, [.int r.2.2.2.2.2.2.1, .int r.2.2.2.2.2.2.2.1, .int r.2.2.2.2.2.2.2.2.1, .int r.2.2.2.2.2.2.2.2.2.1, .int r.2.2.2.2.2.2.2.2.2.2.1, .int r.2.2.2.2.2.2.2.2.2.2.2.1, .int r.2.2.2.2.2.2.2.2.2.2.2.2.1, .int r.2.2.2.2.2.2.2.2.2.2.2.2.2, .int a2_all, .int a2_firstColumn, .int a2_fitsAtFirst, .int a2_paintingsOf0, .int a2_paintingsOf1, .ref h_a2_ruledOut]))]
set_option maxHeartbeats 40000000 in
set_option maxRecDepth 100000 in
theorem mX4_faultIn (l : Launch) (D : jv_D) (F : Nat) (h_t : Nat) (h_a1 : Nat) (h_a2 : Nat) (h_a1_bytes : Nat) (h_a2_ruledOut : Nat) (t_at : Int32) (t_first : Int32) (t_second : Int32) (t_stoneTold : Int32) (t_paintTold : Int32) (a1_length : Int32) (a1_bytes_ : Nat → Int32) (a2_rows : Int32) (a2_columns : Int32) (a2_paints : Int32) (a2_apart : Int32) (a2_paintsOf0 : Int32) (a2_paintsOf1 : Int32) (a2_old : Int32) (a2_shut : Int32) (a2_all : Int32) (a2_firstColumn : Int32) (a2_fitsAtFirst : Int32) (a2_paintingsOf0 : Int32) (a2_paintingsOf1 : Int32) (r : Int32 × Int32 × Int32 × Int32 × Int32 × Int32 × Int32 × Int32 × Int32 × Int32 × Int32 × Int32 × Int32 × Int32) (h : fX4_faultIn F t_at t_first t_second t_stoneTold t_paintTold a1_length a1_bytes_ a2_rows a2_columns a2_paints a2_apart a2_paintsOf0 a2_paintsOf1 a2_old a2_shut = some r) : MM l yX4_faultIn (jW yX4_faultIn cX4_faultIn 5 (some .int)) ({ frames := 5, cells := 0, slots := 0, locals := 110 }) D [.ref h_t, .ref h_a1, .ref h_a2] [(h_t, .inr (3, [.int t_at, .int t_first, .int t_second, .int t_stoneTold, .int t_paintTold])), (h_a1, .inr (5, [.ref h_a1_bytes, .int a1_length])), (h_a1_bytes, jB D 200 a1_bytes_), (h_a2, .inr (2, [.int a2_rows, .int a2_columns, .int a2_paints, .int a2_apart, .int a2_paintsOf0, .int a2_paintsOf1, .int a2_old, .int a2_shut, .int a2_all, .int a2_firstColumn, .int a2_fitsAtFirst, .int a2_paintingsOf0, .int a2_paintingsOf1, .ref h_a2_ruledOut]))] (some (.int r.1)) (oX4_faultIn D h_t h_a1 h_a2 h_a1_bytes h_a2_ruledOut a1_length a1_bytes_ a2_all a2_firstColumn a2_fitsAtFirst a2_paintingsOf0 a2_paintingsOf1 r) := by
  refine mn_of hpX4_faultIn (Nat.le_of_ble_eq_true rfl) ?_
  intro X hXl C E0 hN
  subst hXl
  replace C : JC D X 5 RX4 cX4_faultIn ({ frames := 5, cells := 0, slots := 0, locals := 110 }) := C
  have E : JE D X 0 0 (some .int) (fun _ : Unit => (some (.int r.1))) (fun _ : Unit => (oX4_faultIn D h_t h_a1 h_a2 h_a1_bytes h_a2_ruledOut a1_length a1_bytes_ a2_all a2_firstColumn a2_fitsAtFirst a2_paintingsOf0 a2_paintingsOf1 r)) := E0 0 0 rfl rfl
  clear E0 hN
  show JJ D X 5 0 0 0 [(0, .ref h_t), (1, .ref h_a1), (2, .ref h_a2)] [] [(h_t, .inr (3, [.int t_at, .int t_first, .int t_second, .int t_stoneTold, .int t_paintTold])), (h_a1, .inr (5, [.ref h_a1_bytes, .int a1_length])), (h_a1_bytes, jB D 200 a1_bytes_), (h_a2, .inr (2, [.int a2_rows, .int a2_columns, .int a2_paints, .int a2_apart, .int a2_paintsOf0, .int a2_paintsOf1, .int a2_old, .int a2_shut, .int a2_all, .int a2_firstColumn, .int a2_fitsAtFirst, .int a2_paintingsOf0, .int a2_paintingsOf1, .ref h_a2_ruledOut]))]
  unfold fX4_faultIn at h
  have L21 : ∀ (x3 : Int32) (m_t_at_4 : Int32) (m_t_first_5 : Int32) (m_t_second_6 : Int32) (m_t_stoneTold_7 : Int32) (m_t_paintTold_8 : Int32) (m_a2_rows_9 : Int32) (m_a2_columns_10 : Int32) (m_a2_paints_11 : Int32) (m_a2_apart_12 : Int32) (m_a2_paintsOf0_13 : Int32) (m_a2_paintsOf1_14 : Int32) (m_a2_old_15 : Int32) (m_a2_shut_16 : Int32), lX4_faultIn_21 F a1_length a1_bytes_  F x3 m_t_at_4 m_t_first_5 m_t_second_6 m_t_stoneTold_7 m_t_paintTold_8 m_a2_rows_9 m_a2_columns_10 m_a2_paints_11 m_a2_apart_12 m_a2_paintsOf0_13 m_a2_paintsOf1_14 m_a2_old_15 m_a2_shut_16 = some r → JJ D X 5 0 0 21 [(0, .ref h_t), (1, .ref h_a1), (2, .ref h_a2), (3, .int x3)] [] [(h_t, .inr (3, [.int m_t_at_4, .int m_t_first_5, .int m_t_second_6, .int m_t_stoneTold_7, .int m_t_paintTold_8])), (h_a1, .inr (5, [.ref h_a1_bytes, .int a1_length])), (h_a1_bytes, jB D 200 a1_bytes_), (h_a2, .inr (2, [.int m_a2_rows_9, .int m_a2_columns_10, .int m_a2_paints_11, .int m_a2_apart_12, .int m_a2_paintsOf0_13, .int m_a2_paintsOf1_14, .int m_a2_old_15, .int m_a2_shut_16, .int a2_all, .int a2_firstColumn, .int a2_fitsAtFirst, .int a2_paintingsOf0, .int a2_paintingsOf1, .ref h_a2_ruledOut]))] := by
    intro x3 m_t_at_4 m_t_first_5 m_t_second_6 m_t_stoneTold_7 m_t_paintTold_8 m_a2_rows_9 m_a2_columns_10 m_a2_paints_11 m_a2_apart_12 m_a2_paintsOf0_13 m_a2_paintsOf1_14 m_a2_old_15 m_a2_shut_16 h
    refine jl_ind14 (fun x3 m_t_at_4 m_t_first_5 m_t_second_6 m_t_stoneTold_7 m_t_paintTold_8 m_a2_rows_9 m_a2_columns_10 m_a2_paints_11 m_a2_apart_12 m_a2_paintsOf0_13 m_a2_paintsOf1_14 m_a2_old_15 m_a2_shut_16 => JJ D X 5 0 0 21 [(0, .ref h_t), (1, .ref h_a1), (2, .ref h_a2), (3, .int x3)] [] [(h_t, .inr (3, [.int m_t_at_4, .int m_t_first_5, .int m_t_second_6, .int m_t_stoneTold_7, .int m_t_paintTold_8])), (h_a1, .inr (5, [.ref h_a1_bytes, .int a1_length])), (h_a1_bytes, jB D 200 a1_bytes_), (h_a2, .inr (2, [.int m_a2_rows_9, .int m_a2_columns_10, .int m_a2_paints_11, .int m_a2_apart_12, .int m_a2_paintsOf0_13, .int m_a2_paintsOf1_14, .int m_a2_old_15, .int m_a2_shut_16, .int a2_all, .int a2_firstColumn, .int a2_fitsAtFirst, .int a2_paintingsOf0, .int a2_paintingsOf1, .ref h_a2_ruledOut]))]) ?_ F x3 m_t_at_4 m_t_first_5 m_t_second_6 m_t_stoneTold_7 m_t_paintTold_8 m_a2_rows_9 m_a2_columns_10 m_a2_paints_11 m_a2_apart_12 m_a2_paintsOf0_13 m_a2_paintsOf1_14 m_a2_old_15 m_a2_shut_16 h
    clear h x3 m_t_at_4 m_t_first_5 m_t_second_6 m_t_stoneTold_7 m_t_paintTold_8 m_a2_rows_9 m_a2_columns_10 m_a2_paints_11 m_a2_apart_12 m_a2_paintsOf0_13 m_a2_paintsOf1_14 m_a2_old_15 m_a2_shut_16
    intro k21 i21 x3 m_t_at_4 m_t_first_5 m_t_second_6 m_t_stoneTold_7 m_t_paintTold_8 m_a2_rows_9 m_a2_columns_10 m_a2_paints_11 m_a2_apart_12 m_a2_paintsOf0_13 m_a2_paintsOf1_14 m_a2_old_15 m_a2_shut_16 h
    replace i21 : ∀ (x3 : Int32) (m_t_at_4 : Int32) (m_t_first_5 : Int32) (m_t_second_6 : Int32) (m_t_stoneTold_7 : Int32) (m_t_paintTold_8 : Int32) (m_a2_rows_9 : Int32) (m_a2_columns_10 : Int32) (m_a2_paints_11 : Int32) (m_a2_apart_12 : Int32) (m_a2_paintsOf0_13 : Int32) (m_a2_paintsOf1_14 : Int32) (m_a2_old_15 : Int32) (m_a2_shut_16 : Int32), k21 x3 m_t_at_4 m_t_first_5 m_t_second_6 m_t_stoneTold_7 m_t_paintTold_8 m_a2_rows_9 m_a2_columns_10 m_a2_paints_11 m_a2_apart_12 m_a2_paintsOf0_13 m_a2_paintsOf1_14 m_a2_old_15 m_a2_shut_16 = some r → JJ D X 5 0 0 21 [(0, .ref h_t), (1, .ref h_a1), (2, .ref h_a2), (3, .int x3)] [] [(h_t, .inr (3, [.int m_t_at_4, .int m_t_first_5, .int m_t_second_6, .int m_t_stoneTold_7, .int m_t_paintTold_8])), (h_a1, .inr (5, [.ref h_a1_bytes, .int a1_length])), (h_a1_bytes, jB D 200 a1_bytes_), (h_a2, .inr (2, [.int m_a2_rows_9, .int m_a2_columns_10, .int m_a2_paints_11, .int m_a2_apart_12, .int m_a2_paintsOf0_13, .int m_a2_paintsOf1_14, .int m_a2_old_15, .int m_a2_shut_16, .int a2_all, .int a2_firstColumn, .int a2_fitsAtFirst, .int a2_paintingsOf0, .int a2_paintingsOf1, .ref h_a2_ruledOut]))] := i21
    show JJ D X 5 0 0 21 [(0, .ref h_t), (1, .ref h_a1), (2, .ref h_a2), (3, .int x3)] [] [(h_t, .inr (3, [.int m_t_at_4, .int m_t_first_5, .int m_t_second_6, .int m_t_stoneTold_7, .int m_t_paintTold_8])), (h_a1, .inr (5, [.ref h_a1_bytes, .int a1_length])), (h_a1_bytes, jB D 200 a1_bytes_), (h_a2, .inr (2, [.int m_a2_rows_9, .int m_a2_columns_10, .int m_a2_paints_11, .int m_a2_apart_12, .int m_a2_paintsOf0_13, .int m_a2_paintsOf1_14, .int m_a2_old_15, .int m_a2_shut_16, .int a2_all, .int a2_firstColumn, .int a2_fitsAtFirst, .int a2_paintingsOf0, .int a2_paintingsOf1, .ref h_a2_ruledOut]))]
    unfold bX4_faultIn_21 at h
    refine j_iload_n C dX4_faultIn_21 rfl 3 rfl ?_
    refine j_sipush C dX4_faultIn_22 (v := (200 : Int32)) (by decide) ?_
    refine j_icmp_ge C (tgt := 63) dX4_faultIn_25 (by decide) h (fun c17 h => ?_) (fun c17 h => ?_)
    · refine j_bipush C dX4_faultIn_63 (v := (-4 : Int32)) (by decide) ?_
      exact j_iretR C (r := r) (rtf := fun r => (some (.int r.1))) (wff := fun r => (oX4_faultIn D h_t h_a1 h_a2 h_a1_bytes h_a2_ruledOut a1_length a1_bytes_ a2_all a2_firstColumn a2_fitsAtFirst a2_paintingsOf0 a2_paintingsOf1 r)) E h rfl rfl dX4_faultIn_65
    · refine j_aload_n C dX4_faultIn_28 rfl 0 rfl ?_
      refine j_get C ibX4 (ci := 3) 0 rfl rfl 0 (by decide) bfX4_14 (v := .int m_t_at_4) rfl dX4_faultIn_29 ?_
      refine j_aload_n C dX4_faultIn_32 rfl 1 rfl ?_
      refine j_getN C ibX6 (ci := 5) 1 rfl rfl 1 (by decide) (host := "PaintersAtWall") (by decide +kernel) (v := .int a1_length) rfl dX4_faultIn_33 ?_
      refine j_icmp_ge C (tgt := 63) dX4_faultIn_36 (by decide) h (fun c18 h => ?_) (fun c18 h => ?_)
      · refine j_bipush C dX4_faultIn_63 (v := (-4 : Int32)) (by decide) ?_
        exact j_iretR C (r := r) (rtf := fun r => (some (.int r.1))) (wff := fun r => (oX4_faultIn D h_t h_a1 h_a2 h_a1_bytes h_a2_ruledOut a1_length a1_bytes_ a2_all a2_firstColumn a2_fitsAtFirst a2_paintingsOf0 a2_paintingsOf1 r)) E h rfl rfl dX4_faultIn_65
      · refine j_aload_n C dX4_faultIn_39 rfl 0 rfl ?_
        refine j_get C ibX4 (ci := 3) 0 rfl rfl 0 (by decide) bfX4_14 (v := .int m_t_at_4) rfl dX4_faultIn_40 ?_
        refine j_istoreC C dX4_faultIn_43 (lv' := [(4, .int m_t_at_4), (0, .ref h_t), (1, .ref h_a1), (2, .ref h_a2), (3, .int x3)]) (by decide) rfl ?_
        refine j_aload_n C dX4_faultIn_45 rfl 1 rfl ?_
        refine j_aload_n C dX4_faultIn_46 rfl 2 rfl ?_
        refine j_aload_n C dX4_faultIn_47 rfl 3 rfl ?_
        obtain ⟨r19, q20, h⟩ := jl_bind h
        refine j_cV1 C (mX4_item (jlaunch X) D F h_t h_a1 h_a2 h_a1_bytes h_a2_ruledOut m_t_at_4 m_t_first_5 m_t_second_6 m_t_stoneTold_7 m_t_paintTold_8 a1_length a1_bytes_ m_a2_rows_9 m_a2_columns_10 m_a2_paints_11 m_a2_apart_12 m_a2_paintsOf0_13 m_a2_paintsOf1_14 m_a2_old_15 m_a2_shut_16 a2_all a2_firstColumn a2_fitsAtFirst a2_paintingsOf0 a2_paintingsOf1 r19 q20) bmX4_32 biX4_item bsX4_item bzX4 bcX4_item rfl hX4_item (rest := []) rfl (jroom_of rfl) 0 (ci := 3) rfl rfl rfl [0, 1, 2, 3] [] [0, 1, 2, 3] (wr := []) (ws2 := [(h_t, .inr (3, [.int r19.2.1, .int r19.2.2.1, .int r19.2.2.2.1, .int r19.2.2.2.2.1, .int r19.2.2.2.2.2.1])), (h_a1, .inr (5, [.ref h_a1_bytes, .int a1_length])), (h_a1_bytes, jB D 200 a1_bytes_), (h_a2, .inr (2, [.int r19.2.2.2.2.2.2.1, .int r19.2.2.2.2.2.2.2.1, .int r19.2.2.2.2.2.2.2.2.1, .int r19.2.2.2.2.2.2.2.2.2.1, .int r19.2.2.2.2.2.2.2.2.2.2.1, .int r19.2.2.2.2.2.2.2.2.2.2.2.1, .int r19.2.2.2.2.2.2.2.2.2.2.2.2.1, .int r19.2.2.2.2.2.2.2.2.2.2.2.2.2, .int a2_all, .int a2_firstColumn, .int a2_fitsAtFirst, .int a2_paintingsOf0, .int a2_paintingsOf1, .ref h_a2_ruledOut]))]) rfl rfl rfl rfl rfl (Nat.le_of_ble_eq_true rfl) dX4_faultIn_48 ?_
        refine j_if_ne C (tgt := 57) dX4_faultIn_51 (by decide) h (fun c21 h => ?_) (fun c21 h => ?_)
        · refine j_iload C dX4_faultIn_54 0 rfl ?_
          exact j_iretR C (r := r) (rtf := fun r => (some (.int r.1))) (wff := fun r => (oX4_faultIn D h_t h_a1 h_a2 h_a1_bytes h_a2_ruledOut a1_length a1_bytes_ a2_all a2_firstColumn a2_fitsAtFirst a2_paintingsOf0 a2_paintingsOf1 r)) E h rfl rfl dX4_faultIn_56
        · refine j_iinc C dX4_faultIn_57 4 rfl (lv' := fun v22 => [(3, .int v22), (4, .int m_t_at_4), (0, .ref h_t), (1, .ref h_a1), (2, .ref h_a2)]) (by decide) (fun _ => rfl) h (fun v22 h => ?_)
          refine j_goto C dX4_faultIn_60 (tgt := 21) (by decide) ?_
          refine j_sub (lv' := [(0, .ref h_t), (1, .ref h_a1), (2, .ref h_a2), (3, .int v22)]) [2, 3, 4, 0] rfl ?_
          exact i21 v22 r19.2.1 r19.2.2.1 r19.2.2.2.1 r19.2.2.2.2.1 r19.2.2.2.2.2.1 r19.2.2.2.2.2.2.1 r19.2.2.2.2.2.2.2.1 r19.2.2.2.2.2.2.2.2.1 r19.2.2.2.2.2.2.2.2.2.1 r19.2.2.2.2.2.2.2.2.2.2.1 r19.2.2.2.2.2.2.2.2.2.2.2.1 r19.2.2.2.2.2.2.2.2.2.2.2.2.1 r19.2.2.2.2.2.2.2.2.2.2.2.2.2 h
  refine j_aload_n C dX4_faultIn_0 rfl 2 rfl ?_
  obtain ⟨r1, q2, h⟩ := jl_bind h
  refine j_cV0 C (mX3_clear (jlaunch X) D h_a2 h_a2_ruledOut a2_rows a2_columns a2_paints a2_apart a2_paintsOf0 a2_paintsOf1 a2_old a2_shut a2_all a2_firstColumn a2_fitsAtFirst a2_paintingsOf0 a2_paintingsOf1 r1 q2) bmX4_9 biX3_clear bsX3_clear bzX3 bcX3_clear rfl hX3_clear (rest := []) rfl (jroom_of rfl) 0 (ci := 2) rfl rfl rfl [3] [0, 1, 2] [0, 1, 2, 3] (wr := [(h_t, .inr (3, [.int t_at, .int t_first, .int t_second, .int t_stoneTold, .int t_paintTold])), (h_a1, .inr (5, [.ref h_a1_bytes, .int a1_length])), (h_a1_bytes, jB D 200 a1_bytes_)]) (ws2 := [(h_t, .inr (3, [.int t_at, .int t_first, .int t_second, .int t_stoneTold, .int t_paintTold])), (h_a1, .inr (5, [.ref h_a1_bytes, .int a1_length])), (h_a1_bytes, jB D 200 a1_bytes_), (h_a2, .inr (2, [.int r1.1, .int r1.2.1, .int r1.2.2.1, .int r1.2.2.2.1, .int r1.2.2.2.2.1, .int r1.2.2.2.2.2.1, .int r1.2.2.2.2.2.2.1, .int r1.2.2.2.2.2.2.2, .int a2_all, .int a2_firstColumn, .int a2_fitsAtFirst, .int a2_paintingsOf0, .int a2_paintingsOf1, .ref h_a2_ruledOut]))]) rfl rfl rfl rfl rfl (Nat.le_of_ble_eq_true rfl) dX4_faultIn_1 ?_
  refine j_aload_n C dX4_faultIn_4 rfl 0 rfl ?_
  refine j_iconst C dX4_faultIn_5 (v := (0 : Int32)) (by decide) ?_
  refine j_put C ibX4 tyX4 tyX4_ok nmX4 (ci := 3) 0 rfl rfl 0 (by decide) bfX4_14 rfl rfl rfl (Nat.le_of_ble_eq_true rfl) dX4_faultIn_6 (ws' := [(h_t, .inr (3, [.int ((0 : Int32)), .int t_first, .int t_second, .int t_stoneTold, .int t_paintTold])), (h_a1, .inr (5, [.ref h_a1_bytes, .int a1_length])), (h_a1_bytes, jB D 200 a1_bytes_), (h_a2, .inr (2, [.int r1.1, .int r1.2.1, .int r1.2.2.1, .int r1.2.2.2.1, .int r1.2.2.2.2.1, .int r1.2.2.2.2.2.1, .int r1.2.2.2.2.2.2.1, .int r1.2.2.2.2.2.2.2, .int a2_all, .int a2_firstColumn, .int a2_fitsAtFirst, .int a2_paintingsOf0, .int a2_paintingsOf1, .ref h_a2_ruledOut]))]) rfl ?_
  refine j_aload_n C dX4_faultIn_9 rfl 0 rfl ?_
  refine j_iconst C dX4_faultIn_10 (v := (0 : Int32)) (by decide) ?_
  refine j_put C ibX4 tyX4 tyX4_ok nmX4 (ci := 3) 0 rfl rfl 3 (by decide) bfX4_20 rfl rfl rfl (Nat.le_of_ble_eq_true rfl) dX4_faultIn_11 (ws' := [(h_t, .inr (3, [.int ((0 : Int32)), .int t_first, .int t_second, .int ((0 : Int32)), .int t_paintTold])), (h_a1, .inr (5, [.ref h_a1_bytes, .int a1_length])), (h_a1_bytes, jB D 200 a1_bytes_), (h_a2, .inr (2, [.int r1.1, .int r1.2.1, .int r1.2.2.1, .int r1.2.2.2.1, .int r1.2.2.2.2.1, .int r1.2.2.2.2.2.1, .int r1.2.2.2.2.2.2.1, .int r1.2.2.2.2.2.2.2, .int a2_all, .int a2_firstColumn, .int a2_fitsAtFirst, .int a2_paintingsOf0, .int a2_paintingsOf1, .ref h_a2_ruledOut]))]) rfl ?_
  refine j_aload_n C dX4_faultIn_14 rfl 0 rfl ?_
  refine j_iconst C dX4_faultIn_15 (v := (0 : Int32)) (by decide) ?_
  refine j_put C ibX4 tyX4 tyX4_ok nmX4 (ci := 3) 0 rfl rfl 4 (by decide) bfX4_24 rfl rfl rfl (Nat.le_of_ble_eq_true rfl) dX4_faultIn_16 (ws' := [(h_t, .inr (3, [.int ((0 : Int32)), .int t_first, .int t_second, .int ((0 : Int32)), .int ((0 : Int32))])), (h_a1, .inr (5, [.ref h_a1_bytes, .int a1_length])), (h_a1_bytes, jB D 200 a1_bytes_), (h_a2, .inr (2, [.int r1.1, .int r1.2.1, .int r1.2.2.1, .int r1.2.2.2.1, .int r1.2.2.2.2.1, .int r1.2.2.2.2.2.1, .int r1.2.2.2.2.2.2.1, .int r1.2.2.2.2.2.2.2, .int a2_all, .int a2_firstColumn, .int a2_fitsAtFirst, .int a2_paintingsOf0, .int a2_paintingsOf1, .ref h_a2_ruledOut]))]) rfl ?_
  refine j_iconst C dX4_faultIn_19 (v := (0 : Int32)) (by decide) ?_
  refine j_istore_nC C dX4_faultIn_20 rfl (lv' := [(3, .int ((0 : Int32))), (0, .ref h_t), (1, .ref h_a1), (2, .ref h_a2)]) (by decide) rfl ?_
  refine j_sub (lv' := [(0, .ref h_t), (1, .ref h_a1), (2, .ref h_a2), (3, .int ((0 : Int32)))]) [1, 2, 3, 0] rfl ?_
  exact L21 ((0 : Int32)) ((0 : Int32)) t_first t_second ((0 : Int32)) ((0 : Int32)) r1.1 r1.2.1 r1.2.2.1 r1.2.2.2.1 r1.2.2.2.2.1 r1.2.2.2.2.2.1 r1.2.2.2.2.2.2.1 r1.2.2.2.2.2.2.2 h
