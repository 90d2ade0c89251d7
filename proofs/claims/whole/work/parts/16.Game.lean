theorem dX0_init_0 : decode cX0_init 0 = .ok (.aload_n 0, 1) := by decide +kernel
theorem dX0_init_1 : decode cX0_init 1 = .ok (.invokespecial 3, 3) := by decide +kernel
theorem dX0_init_4 : decode cX0_init 4 = .ok (.aload_n 0, 1) := by decide +kernel
theorem dX0_init_5 : decode cX0_init 5 = .ok (.sipush 4096, 3) := by decide +kernel
theorem dX0_init_8 : decode cX0_init 8 = .ok (.newarray .int, 2) := by decide +kernel
theorem dX0_init_10 : decode cX0_init 10 = .ok (.putfield 11, 3) := by decide +kernel
theorem dX0_init_13 : decode cX0_init 13 = .ok (.return_, 1) := by decide +kernel
def fX0_init  : Option ((Nat → Int32)) :=
(some ((fun _ => (0 : Int32))))
set_option maxHeartbeats 40000000 in
set_option maxRecDepth 100000 in
theorem mX0_init (l : Launch) (D : jv_D) (h_t : Nat) (r : (Nat → Int32)) (h : fX0_init  = some r) : MN l yX0_init (jW yX0_init cX0_init 1 none) ({ frames := 1, cells := 1, slots := 4096, locals := 64 }) D [.ref h_t] [(h_t, .inr (0, [.null]))] 1 4096 (fun _ : Nat => none) (fun u : Nat => [(h_t, .inr (0, [.ref u])), (u, jI D 4096 r)]) := by
  refine mn_of hpX0_init (Nat.le_of_ble_eq_true rfl) ?_
  intro X hXl C E hN
  subst hXl
  replace C : JC D X 1 RX0 cX0_init ({ frames := 1, cells := 1, slots := 4096, locals := 64 }) := C
  show JJ D X 1 0 0 0 [(0, .ref h_t)] [] [(h_t, .inr (0, [.null]))]
  unfold fX0_init at h
  refine j_aload_n C dX0_init_0 rfl 0 rfl ?_
  refine j_objInit C bmX0_3 boi boc dX0_init_1 ⟨Nat.le_of_ble_eq_true rfl, Nat.le_of_ble_eq_true rfl⟩ ?_
  refine j_aload_n C dX0_init_4 rfl 0 rfl ?_
  refine j_sipush C dX0_init_5 (v := (4096 : Int32)) (by decide) ?_
  refine j_newa C (atype := .int) 0 (ty := .int) rfl (fun _ _ h => h) baa_int rfl (N := 4096) (a0 := (4096, .inl (fun _ => (0 : Int32)))) (fun _ => rfl) (by decide) (by decide +kernel) (Nat.le_of_ble_eq_true rfl) ⟨Nat.le_of_ble_eq_true rfl, Nat.le_of_ble_eq_true rfl⟩ dX0_init_8 (fun h1 => ?_)
  show JJ D X 1 (0 + 1) (0 + 4096) 10 [(0, .ref h_t)] [.ref h1, .ref h_t] [(h_t, .inr (0, [.null])), (h1, jI D 4096 ((fun _ => (0 : Int32))))]
  refine j_putF C ibX0 tyX0 tyX0_ok nmX0 (hN rfl) (ci := 0) 0 rfl rfl 0 (by decide) bfX0_11 rfl rfl rfl rfl (Nat.le_of_ble_eq_true rfl) dX0_init_10 (ws' := [(h_t, .inr (0, [.ref h1])), (h1, jI D 4096 ((fun _ => (0 : Int32))))]) rfl ?_
  obtain rfl := jl_some h
  exact j_vret C (E _ _ rfl rfl) (h1) rfl rfl dX0_init_13
theorem dX0_forget_0 : decode cX0_forget 0 = .ok (.aload_n 0, 1) := by decide +kernel
theorem dX0_forget_1 : decode cX0_forget 1 = .ok (.getfield 11, 3) := by decide +kernel
theorem dX0_forget_4 : decode cX0_forget 4 = .ok (.iconst 0, 1) := by decide +kernel
theorem dX0_forget_5 : decode cX0_forget 5 = .ok (.invokestatic 15, 3) := by decide +kernel
theorem dX0_forget_8 : decode cX0_forget 8 = .ok (.return_, 1) := by decide +kernel
def fX0_forget (F : Nat) (t_known_ : Nat → Int32) : Option ((Nat → Int32)) :=
((fJ7_fill_53178 F 4096 t_known_ ((0 : Int32))).bind fun r1 =>
(some (r1)))
def oX0_forget (D : jv_D) (h_t : Nat) (h_t_known : Nat) (r : (Nat → Int32)) : va_W := [(h_t, .inr (0, [.ref h_t_known])), (h_t_known, jI D 4096 r)]
set_option maxHeartbeats 40000000 in
set_option maxRecDepth 100000 in
theorem mX0_forget (l : Launch) (D : jv_D) (F : Nat) (h_t : Nat) (h_t_known : Nat) (t_known_ : Nat → Int32) (r : (Nat → Int32)) (h : fX0_forget F t_known_ = some r) : MM l yX0_forget (jW yX0_forget cX0_forget 1 none) ({ frames := 1, cells := 0, slots := 0, locals := 23 }) D [.ref h_t] [(h_t, .inr (0, [.ref h_t_known])), (h_t_known, jI D 4096 t_known_)] none (oX0_forget D h_t h_t_known r) := by
  refine mn_of hpX0_forget (Nat.le_of_ble_eq_true rfl) ?_
  intro X hXl C E0 hN
  subst hXl
  replace C : JC D X 1 RX0 cX0_forget ({ frames := 1, cells := 0, slots := 0, locals := 23 }) := C
  have E : JE D X 0 0 none (fun _ : Unit => none) (fun _ : Unit => (oX0_forget D h_t h_t_known r)) := E0 0 0 rfl rfl
  clear E0 hN
  show JJ D X 1 0 0 0 [(0, .ref h_t)] [] [(h_t, .inr (0, [.ref h_t_known])), (h_t_known, jI D 4096 t_known_)]
  unfold fX0_forget at h
  refine j_aload_n C dX0_forget_0 rfl 0 rfl ?_
  refine j_get C ibX0 (ci := 0) 0 rfl rfl 0 (by decide) bfX0_11 (v := .ref h_t_known) rfl dX0_forget_1 ?_
  refine j_iconst C dX0_forget_4 (v := (0 : Int32)) (by decide) ?_
  obtain ⟨r1, q2, h⟩ := jl_bind h
  refine j_cS0 C (mJ7_fill_53178 (jlaunch X) D F 4096 h_t_known t_known_ ((0 : Int32)) r1 q2) bmX0_15 btJ7_fill_53178 bzJ7 bcJ7_fill_53178 hJ7_fill_53178 (rest := []) rfl (jroom_of rfl) [1] [0] [0, 1] (wr := [(h_t, .inr (0, [.ref h_t_known]))]) (ws2 := [(h_t, .inr (0, [.ref h_t_known])), (h_t_known, jI D 4096 r1)]) rfl rfl rfl rfl rfl (Nat.le_of_ble_eq_true rfl) dX0_forget_5 ?_
  exact j_vretR C (r := r) (rtf := fun r => none) (wff := fun r => (oX0_forget D h_t h_t_known r)) E h rfl rfl dX0_forget_8
theorem dX0_fittingForSome_0 : decode cX0_fittingForSome 0 = .ok (.aload_n 0, 1) := by decide +kernel
theorem dX0_fittingForSome_1 : decode cX0_fittingForSome 1 = .ok (.iload_n 1, 1) := by decide +kernel
theorem dX0_fittingForSome_2 : decode cX0_fittingForSome 2 = .ok (.invokevirtual 45, 3) := by decide +kernel
theorem dX0_fittingForSome_5 : decode cX0_fittingForSome 5 = .ok (.aload_n 0, 1) := by decide +kernel
theorem dX0_fittingForSome_6 : decode cX0_fittingForSome 6 = .ok (.iconst 0, 1) := by decide +kernel
theorem dX0_fittingForSome_7 : decode cX0_fittingForSome 7 = .ok (.invokevirtual 35, 3) := by decide +kernel
theorem dX0_fittingForSome_10 : decode cX0_fittingForSome 10 = .ok (.aload_n 0, 1) := by decide +kernel
theorem dX0_fittingForSome_11 : decode cX0_fittingForSome 11 = .ok (.iconst 1, 1) := by decide +kernel
theorem dX0_fittingForSome_12 : decode cX0_fittingForSome 12 = .ok (.invokevirtual 35, 3) := by decide +kernel
theorem dX0_fittingForSome_15 : decode cX0_fittingForSome 15 = .ok (.ior, 1) := by decide +kernel
theorem dX0_fittingForSome_16 : decode cX0_fittingForSome 16 = .ok (.iand, 1) := by decide +kernel
theorem dX0_fittingForSome_17 : decode cX0_fittingForSome 17 = .ok (.ireturn, 1) := by decide +kernel
def fX0_fittingForSome (F : Nat) (a0_fitsAtFirst : Int32) (a0_paintingsOf0 : Int32) (a0_paintingsOf1 : Int32) (a0_ruledOut_ : Nat → Int32) (p1 : Int32) : Option (Int32) :=
((fX3_fitting F a0_fitsAtFirst a0_ruledOut_ p1).bind fun r1 =>
((fX3_paintingsOf a0_paintingsOf0 a0_paintingsOf1 ((0 : Int32))).bind fun r3 =>
((fX3_paintingsOf a0_paintingsOf0 a0_paintingsOf1 ((1 : Int32))).bind fun r5 =>
(some (r1 &&& (r3 ||| r5))))))
def oX0_fittingForSome (D : jv_D) (h_a0 : Nat) (h_a0_ruledOut : Nat) (a0_rows : Int32) (a0_columns : Int32) (a0_paints : Int32) (a0_apart : Int32) (a0_paintsOf0 : Int32) (a0_paintsOf1 : Int32) (a0_old : Int32) (a0_shut : Int32) (a0_all : Int32) (a0_firstColumn : Int32) (a0_fitsAtFirst : Int32) (a0_paintingsOf0 : Int32) (a0_paintingsOf1 : Int32) (a0_ruledOut_ : Nat → Int32) (r : Int32) : va_W := [(h_a0, .inr (2, [.int a0_rows, .int a0_columns, .int a0_paints, .int a0_apart, .int a0_paintsOf0, .int a0_paintsOf1, .int a0_old, .int a0_shut, .int a0_all, .int a0_firstColumn, .int a0_fitsAtFirst, .int a0_paintingsOf0, .int a0_paintingsOf1, .ref h_a0_ruledOut])), (h_a0_ruledOut, jI D 27 a0_ruledOut_)]
set_option maxHeartbeats 40000000 in
set_option maxRecDepth 100000 in
theorem mX0_fittingForSome (l : Launch) (D : jv_D) (F : Nat) (h_a0 : Nat) (h_a0_ruledOut : Nat) (a0_rows : Int32) (a0_columns : Int32) (a0_paints : Int32) (a0_apart : Int32) (a0_paintsOf0 : Int32) (a0_paintsOf1 : Int32) (a0_old : Int32) (a0_shut : Int32) (a0_all : Int32) (a0_firstColumn : Int32) (a0_fitsAtFirst : Int32) (a0_paintingsOf0 : Int32) (a0_paintingsOf1 : Int32) (a0_ruledOut_ : Nat → Int32) (p1 : Int32) (r : Int32) (h : fX0_fittingForSome F a0_fitsAtFirst a0_paintingsOf0 a0_paintingsOf1 a0_ruledOut_ p1 = some r) : MM l yX0_fittingForSome (jW yX0_fittingForSome cX0_fittingForSome 2 (some .int)) ({ frames := 1, cells := 0, slots := 0, locals := 23 }) D [.ref h_a0, .int p1] [(h_a0, .inr (2, [.int a0_rows, .int a0_columns, .int a0_paints, .int a0_apart, .int a0_paintsOf0, .int a0_paintsOf1, .int a0_old, .int a0_shut, .int a0_all, .int a0_firstColumn, .int a0_fitsAtFirst, .int a0_paintingsOf0, .int a0_paintingsOf1, .ref h_a0_ruledOut])), (h_a0_ruledOut, jI D 27 a0_ruledOut_)] (some (.int r)) (oX0_fittingForSome D h_a0 h_a0_ruledOut a0_rows a0_columns a0_paints a0_apart a0_paintsOf0 a0_paintsOf1 a0_old a0_shut a0_all a0_firstColumn a0_fitsAtFirst a0_paintingsOf0 a0_paintingsOf1 a0_ruledOut_ r) := by
  refine mn_of hpX0_fittingForSome (Nat.le_of_ble_eq_true rfl) ?_
  intro X hXl C E0 hN
  subst hXl
  replace C : JC D X 2 RX0 cX0_fittingForSome ({ frames := 1, cells := 0, slots := 0, locals := 23 }) := C
  have E : JE D X 0 0 (some .int) (fun _ : Unit => (some (.int r))) (fun _ : Unit => (oX0_fittingForSome D h_a0 h_a0_ruledOut a0_rows a0_columns a0_paints a0_apart a0_paintsOf0 a0_paintsOf1 a0_old a0_shut a0_all a0_firstColumn a0_fitsAtFirst a0_paintingsOf0 a0_paintingsOf1 a0_ruledOut_ r)) := E0 0 0 rfl rfl
  clear E0 hN
  show JJ D X 2 0 0 0 [(0, .ref h_a0), (1, .int p1)] [] [(h_a0, .inr (2, [.int a0_rows, .int a0_columns, .int a0_paints, .int a0_apart, .int a0_paintsOf0, .int a0_paintsOf1, .int a0_old, .int a0_shut, .int a0_all, .int a0_firstColumn, .int a0_fitsAtFirst, .int a0_paintingsOf0, .int a0_paintingsOf1, .ref h_a0_ruledOut])), (h_a0_ruledOut, jI D 27 a0_ruledOut_)]
  unfold fX0_fittingForSome at h
  refine j_aload_n C dX0_fittingForSome_0 rfl 0 rfl ?_
  refine j_iload_n C dX0_fittingForSome_1 rfl 1 rfl ?_
  obtain ⟨r1, q2, h⟩ := jl_bind h
  refine j_cV1 C (mX3_fitting (jlaunch X) D F h_a0 h_a0_ruledOut a0_rows a0_columns a0_paints a0_apart a0_paintsOf0 a0_paintsOf1 a0_old a0_shut a0_all a0_firstColumn a0_fitsAtFirst a0_paintingsOf0 a0_paintingsOf1 a0_ruledOut_ p1 r1 q2) bmX0_45 biX3_fitting bsX3_fitting bzX3 bcX3_fitting rfl hX3_fitting (rest := []) rfl (jroom_of rfl) 0 (ci := 2) rfl rfl rfl [0, 1] [] [0, 1] (wr := []) (ws2 := [(h_a0, .inr (2, [.int a0_rows, .int a0_columns, .int a0_paints, .int a0_apart, .int a0_paintsOf0, .int a0_paintsOf1, .int a0_old, .int a0_shut, .int a0_all, .int a0_firstColumn, .int a0_fitsAtFirst, .int a0_paintingsOf0, .int a0_paintingsOf1, .ref h_a0_ruledOut])), (h_a0_ruledOut, jI D 27 a0_ruledOut_)]) rfl rfl rfl rfl rfl (Nat.le_of_ble_eq_true rfl) dX0_fittingForSome_2 ?_
  refine j_aload_n C dX0_fittingForSome_5 rfl 0 rfl ?_
  refine j_iconst C dX0_fittingForSome_6 (v := (0 : Int32)) (by decide) ?_
  obtain ⟨r3, q4, h⟩ := jl_bind h
  refine j_cV1 C (mX3_paintingsOf (jlaunch X) D h_a0 h_a0_ruledOut a0_rows a0_columns a0_paints a0_apart a0_paintsOf0 a0_paintsOf1 a0_old a0_shut a0_all a0_firstColumn a0_fitsAtFirst a0_paintingsOf0 a0_paintingsOf1 ((0 : Int32)) r3 q4) bmX0_35 biX3_paintingsOf bsX3_paintingsOf bzX3 bcX3_paintingsOf rfl hX3_paintingsOf (rest := [.int r1]) rfl (jroom_of rfl) 0 (ci := 2) rfl rfl rfl [0] [1] [1, 0] (wr := [(h_a0_ruledOut, jI D 27 a0_ruledOut_)]) (ws2 := [(h_a0, .inr (2, [.int a0_rows, .int a0_columns, .int a0_paints, .int a0_apart, .int a0_paintsOf0, .int a0_paintsOf1, .int a0_old, .int a0_shut, .int a0_all, .int a0_firstColumn, .int a0_fitsAtFirst, .int a0_paintingsOf0, .int a0_paintingsOf1, .ref h_a0_ruledOut])), (h_a0_ruledOut, jI D 27 a0_ruledOut_)]) rfl rfl rfl rfl rfl (Nat.le_of_ble_eq_true rfl) dX0_fittingForSome_7 ?_
  refine j_aload_n C dX0_fittingForSome_10 rfl 0 rfl ?_
  refine j_iconst C dX0_fittingForSome_11 (v := (1 : Int32)) (by decide) ?_
  obtain ⟨r5, q6, h⟩ := jl_bind h
  refine j_cV1 C (mX3_paintingsOf (jlaunch X) D h_a0 h_a0_ruledOut a0_rows a0_columns a0_paints a0_apart a0_paintsOf0 a0_paintsOf1 a0_old a0_shut a0_all a0_firstColumn a0_fitsAtFirst a0_paintingsOf0 a0_paintingsOf1 ((1 : Int32)) r5 q6) bmX0_35 biX3_paintingsOf bsX3_paintingsOf bzX3 bcX3_paintingsOf rfl hX3_paintingsOf (rest := [.int r3, .int r1]) rfl (jroom_of rfl) 0 (ci := 2) rfl rfl rfl [0] [1] [1, 0] (wr := [(h_a0_ruledOut, jI D 27 a0_ruledOut_)]) (ws2 := [(h_a0, .inr (2, [.int a0_rows, .int a0_columns, .int a0_paints, .int a0_apart, .int a0_paintsOf0, .int a0_paintsOf1, .int a0_old, .int a0_shut, .int a0_all, .int a0_firstColumn, .int a0_fitsAtFirst, .int a0_paintingsOf0, .int a0_paintingsOf1, .ref h_a0_ruledOut])), (h_a0_ruledOut, jI D 27 a0_ruledOut_)]) rfl rfl rfl rfl rfl (Nat.le_of_ble_eq_true rfl) dX0_fittingForSome_12 ?_
  refine j_ior C dX0_fittingForSome_15 ?_
  refine j_iand C dX0_fittingForSome_16 ?_
  exact j_iretR C (r := r) (rtf := fun r => (some (.int r))) (wff := fun r => (oX0_fittingForSome D h_a0 h_a0_ruledOut a0_rows a0_columns a0_paints a0_apart a0_paintsOf0 a0_paintsOf1 a0_old a0_shut a0_all a0_firstColumn a0_fitsAtFirst a0_paintingsOf0 a0_paintingsOf1 a0_ruledOut_ r)) E h rfl rfl dX0_fittingForSome_17
theorem dX0_hasWinning_0 : decode cX0_hasWinning 0 = .ok (.iload_n 3, 1) := by decide +kernel
theorem dX0_hasWinning_1 : decode cX0_hasWinning 1 = .ok (.aload_n 1, 1) := by decide +kernel
theorem dX0_hasWinning_2 : decode cX0_hasWinning 2 = .ok (.iload 5, 2) := by decide +kernel
theorem dX0_hasWinning_4 : decode cX0_hasWinning 4 = .ok (.invokevirtual 35, 3) := by decide +kernel
theorem dX0_hasWinning_7 : decode cX0_hasWinning 7 = .ok (.iand, 1) := by decide +kernel
theorem dX0_hasWinning_8 : decode cX0_hasWinning 8 = .ok (.istore 7, 2) := by decide +kernel
theorem dX0_hasWinning_10 : decode cX0_hasWinning 10 = .ok (.iconst 0, 1) := by decide +kernel
theorem dX0_hasWinning_11 : decode cX0_hasWinning 11 = .ok (.istore 8, 2) := by decide +kernel
theorem dX0_hasWinning_13 : decode cX0_hasWinning 13 = .ok (.iload 8, 2) := by decide +kernel
theorem dX0_hasWinning_15 : decode cX0_hasWinning 15 = .ok (.bipush 27, 2) := by decide +kernel
theorem dX0_hasWinning_17 : decode cX0_hasWinning 17 = .ok (.if_icmp .ge 78, 3) := by decide +kernel
theorem dX0_hasWinning_20 : decode cX0_hasWinning 20 = .ok (.iload 7, 2) := by decide +kernel
theorem dX0_hasWinning_22 : decode cX0_hasWinning 22 = .ok (.ifCond .eq 73, 3) := by decide +kernel
theorem dX0_hasWinning_25 : decode cX0_hasWinning 25 = .ok (.iload 6, 2) := by decide +kernel
theorem dX0_hasWinning_27 : decode cX0_hasWinning 27 = .ok (.bipush 9, 2) := by decide +kernel
theorem dX0_hasWinning_29 : decode cX0_hasWinning 29 = .ok (.if_icmp .ge 66, 3) := by decide +kernel
theorem dX0_hasWinning_32 : decode cX0_hasWinning 32 = .ok (.iload 7, 2) := by decide +kernel
theorem dX0_hasWinning_34 : decode cX0_hasWinning 34 = .ok (.iload 7, 2) := by decide +kernel
theorem dX0_hasWinning_36 : decode cX0_hasWinning 36 = .ok (.ineg, 1) := by decide +kernel
theorem dX0_hasWinning_37 : decode cX0_hasWinning 37 = .ok (.iand, 1) := by decide +kernel
theorem dX0_hasWinning_38 : decode cX0_hasWinning 38 = .ok (.istore 9, 2) := by decide +kernel
theorem dX0_hasWinning_40 : decode cX0_hasWinning 40 = .ok (.iload 7, 2) := by decide +kernel
theorem dX0_hasWinning_42 : decode cX0_hasWinning 42 = .ok (.iload 9, 2) := by decide +kernel
theorem dX0_hasWinning_44 : decode cX0_hasWinning 44 = .ok (.iconst (-1), 1) := by decide +kernel
theorem dX0_hasWinning_45 : decode cX0_hasWinning 45 = .ok (.ixor, 1) := by decide +kernel
theorem dX0_hasWinning_46 : decode cX0_hasWinning 46 = .ok (.iand, 1) := by decide +kernel
theorem dX0_hasWinning_47 : decode cX0_hasWinning 47 = .ok (.istore 7, 2) := by decide +kernel
theorem dX0_hasWinning_49 : decode cX0_hasWinning 49 = .ok (.iload 4, 2) := by decide +kernel
theorem dX0_hasWinning_51 : decode cX0_hasWinning 51 = .ok (.iload 9, 2) := by decide +kernel
theorem dX0_hasWinning_53 : decode cX0_hasWinning 53 = .ok (.invokestatic 48, 3) := by decide +kernel
theorem dX0_hasWinning_56 : decode cX0_hasWinning 56 = .ok (.iconst (-1), 1) := by decide +kernel
theorem dX0_hasWinning_57 : decode cX0_hasWinning 57 = .ok (.ixor, 1) := by decide +kernel
theorem dX0_hasWinning_58 : decode cX0_hasWinning 58 = .ok (.iand, 1) := by decide +kernel
theorem dX0_hasWinning_59 : decode cX0_hasWinning 59 = .ok (.istore 10, 2) := by decide +kernel
theorem dX0_hasWinning_61 : decode cX0_hasWinning 61 = .ok (.aload_n 0, 1) := by decide +kernel
theorem dX0_hasWinning_62 : decode cX0_hasWinning 62 = .ok (.aload_n 1, 1) := by decide +kernel
theorem dX0_hasWinning_63 : decode cX0_hasWinning 63 = .ok (.iload_n 2, 1) := by decide +kernel
theorem dX0_hasWinning_64 : decode cX0_hasWinning 64 = .ok (.aload_n 1, 1) := by decide +kernel
theorem dX0_hasWinning_65 : decode cX0_hasWinning 65 = .ok (.iload_n 3, 1) := by decide +kernel
theorem dX0_hasWinning_66 : decode cX0_hasWinning 66 = .ok (.iload 9, 2) := by decide +kernel
theorem dX0_hasWinning_68 : decode cX0_hasWinning 68 = .ok (.invokevirtual 42, 3) := by decide +kernel
theorem dX0_hasWinning_71 : decode cX0_hasWinning 71 = .ok (.iload 10, 2) := by decide +kernel
theorem dX0_hasWinning_73 : decode cX0_hasWinning 73 = .ok (.iconst 1, 1) := by decide +kernel
theorem dX0_hasWinning_74 : decode cX0_hasWinning 74 = .ok (.iload 5, 2) := by decide +kernel
theorem dX0_hasWinning_76 : decode cX0_hasWinning 76 = .ok (.isub, 1) := by decide +kernel
theorem dX0_hasWinning_77 : decode cX0_hasWinning 77 = .ok (.iload 6, 2) := by decide +kernel
theorem dX0_hasWinning_79 : decode cX0_hasWinning 79 = .ok (.iconst 1, 1) := by decide +kernel
theorem dX0_hasWinning_80 : decode cX0_hasWinning 80 = .ok (.iadd, 1) := by decide +kernel
theorem dX0_hasWinning_81 : decode cX0_hasWinning 81 = .ok (.invokevirtual 31, 3) := by decide +kernel
theorem dX0_hasWinning_84 : decode cX0_hasWinning 84 = .ok (.ifCond .ne 5, 3) := by decide +kernel
theorem dX0_hasWinning_87 : decode cX0_hasWinning 87 = .ok (.iconst 1, 1) := by decide +kernel
theorem dX0_hasWinning_88 : decode cX0_hasWinning 88 = .ok (.ireturn, 1) := by decide +kernel
theorem dX0_hasWinning_89 : decode cX0_hasWinning 89 = .ok (.iinc 8 1, 3) := by decide +kernel
theorem dX0_hasWinning_92 : decode cX0_hasWinning 92 = .ok (.goto (-79), 3) := by decide +kernel
theorem dX0_hasWinning_95 : decode cX0_hasWinning 95 = .ok (.iconst 0, 1) := by decide +kernel
theorem dX0_hasWinning_96 : decode cX0_hasWinning 96 = .ok (.ireturn, 1) := by decide +kernel
def bX0_hasWinning_13 (F : Nat) (rec : (Nat → Int32) → Int32 → Int32 → (Nat → Int32) → Int32 → Int32 → Int32 → Int32 → Int32 → Option (Int32 × (Nat → Int32))) (a1_paintingsOf0 : Int32) (a1_paintingsOf1 : Int32) (a1_ruledOut_ : Nat → Int32) (p2 : Int32) (p3 : Int32) (p4 : Int32) (p5 : Int32) (p6 : Int32)  (k13 : Int32 → Int32 → (Nat → Int32) → Option (Int32 × (Nat → Int32))) (x4 : Int32) (x5 : Int32) (m_t_known__6 : Nat → Int32) : Option (Int32 × (Nat → Int32)) :=
(if ((27 : Int32)) ≤ x5 then
(some ((0 : Int32), m_t_known__6))
else
(if x4 = 0 then
(some ((0 : Int32), m_t_known__6))
else
(if ((9 : Int32)) ≤ p6 then
(some ((0 : Int32), m_t_known__6))
else
(jl_let (x4 &&& (-x4)) fun v10 =>
(jl_let (x4 &&& (v10 ^^^ ((-1 : Int32)))) fun v11 =>
((fX3_painted v10).bind fun r12 =>
(jl_let (p4 &&& (r12 ^^^ ((-1 : Int32)))) fun v14 =>
((fX3_fittingAfter a1_ruledOut_ p3 v10).bind fun r15 =>
((rec m_t_known__6 a1_paintingsOf0 a1_paintingsOf1 a1_ruledOut_ p2 r15 v14 (((1 : Int32)) - p5) (p6 + ((1 : Int32)))).bind fun r17 =>
(if r17.1 = 0 then
(some ((1 : Int32), r17.2))
else
(jl_let (x5 + Int32.ofInt (1)) fun v20 =>
(k13 v11 v20 r17.2))))))))))))
def lX0_hasWinning_13 (F : Nat) (rec : (Nat → Int32) → Int32 → Int32 → (Nat → Int32) → Int32 → Int32 → Int32 → Int32 → Int32 → Option (Int32 × (Nat → Int32))) (a1_paintingsOf0 : Int32) (a1_paintingsOf1 : Int32) (a1_ruledOut_ : Nat → Int32) (p2 : Int32) (p3 : Int32) (p4 : Int32) (p5 : Int32) (p6 : Int32)  (F2 : Nat) (x4 : Int32) (x5 : Int32) (m_t_known__6 : Nat → Int32) : Option (Int32 × (Nat → Int32)) := jl_loop3 (bX0_hasWinning_13 F rec a1_paintingsOf0 a1_paintingsOf1 a1_ruledOut_ p2 p3 p4 p5 p6 ) F2 x4 x5 m_t_known__6
def fX0_hasWinning (F : Nat) (rec : (Nat → Int32) → Int32 → Int32 → (Nat → Int32) → Int32 → Int32 → Int32 → Int32 → Int32 → Option (Int32 × (Nat → Int32))) (t_known_ : Nat → Int32) (a1_paintingsOf0 : Int32) (a1_paintingsOf1 : Int32) (a1_ruledOut_ : Nat → Int32) (p2 : Int32) (p3 : Int32) (p4 : Int32) (p5 : Int32) (p6 : Int32) : Option (Int32 × (Nat → Int32)) :=
((fX3_paintingsOf a1_paintingsOf0 a1_paintingsOf1 p5).bind fun r1 =>
(jl_let (p3 &&& r1) fun v3 =>
(lX0_hasWinning_13 F rec a1_paintingsOf0 a1_paintingsOf1 a1_ruledOut_ p2 p3 p4 p5 p6 F v3 ((0 : Int32)) t_known_)))
def oX0_wins (D : jv_D) (h_t : Nat) (h_a1 : Nat) (h_t_known : Nat) (h_a1_ruledOut : Nat) (a1_rows : Int32) (a1_columns : Int32) (a1_paints : Int32) (a1_apart : Int32) (a1_paintsOf0 : Int32) (a1_paintsOf1 : Int32) (a1_old : Int32) (a1_shut : Int32) (a1_all : Int32) (a1_firstColumn : Int32) (a1_fitsAtFirst : Int32) (a1_paintingsOf0 : Int32) (a1_paintingsOf1 : Int32) (a1_ruledOut_ : Nat → Int32) (r : Int32 × (Nat → Int32)) : va_W := [(h_t, .inr (0, [.ref h_t_known])), (h_t_known, jI D 4096 r.2), (h_a1, .inr (2, [.int a1_rows, .int a1_columns, .int a1_paints, .int a1_apart, .int a1_paintsOf0, .int a1_paintsOf1, .int a1_old, .int a1_shut, .int a1_all, .int a1_firstColumn, .int a1_fitsAtFirst, .int a1_paintingsOf0, .int a1_paintingsOf1, .ref h_a1_ruledOut])), (h_a1_ruledOut, jI D 27 a1_ruledOut_)]
def oX0_hasWinning (D : jv_D) (h_t : Nat) (h_a1 : Nat) (h_t_known : Nat) (h_a1_ruledOut : Nat) (a1_rows : Int32) (a1_columns : Int32) (a1_paints : Int32) (a1_apart : Int32) (a1_paintsOf0 : Int32) (a1_paintsOf1 : Int32) (a1_old : Int32) (a1_shut : Int32) (a1_all : Int32) (a1_firstColumn : Int32) (a1_fitsAtFirst : Int32) (a1_paintingsOf0 : Int32) (a1_paintingsOf1 : Int32) (a1_ruledOut_ : Nat → Int32) (r : Int32 × (Nat → Int32)) : va_W := [(h_t, .inr (0, [.ref h_t_known])), (h_t_known, jI D 4096 r.2), (h_a1, .inr (2, [.int a1_rows, .int a1_columns, .int a1_paints, .int a1_apart, .int a1_paintsOf0, .int a1_paintsOf1, .int a1_old, .int a1_shut, .int a1_all, .int a1_firstColumn, .int a1_fitsAtFirst, .int a1_paintingsOf0, .int a1_paintingsOf1, .ref h_a1_ruledOut])), (h_a1_ruledOut, jI D 27 a1_ruledOut_)]
set_option maxHeartbeats 40000000 in
set_option maxRecDepth 100000 in
theorem mX0_hasWinning (l : Launch) (D : jv_D) (F : Nat) (rec : (Nat → Int32) → Int32 → Int32 → (Nat → Int32) → Int32 → Int32 → Int32 → Int32 → Int32 → Option (Int32 × (Nat → Int32))) (fr lo : Nat) (hrec : ∀ (h_t : Nat) (h_a1 : Nat) (h_t_known : Nat) (h_a1_ruledOut : Nat) (t_known_ : Nat → Int32) (a1_rows : Int32) (a1_columns : Int32) (a1_paints : Int32) (a1_apart : Int32) (a1_paintsOf0 : Int32) (a1_paintsOf1 : Int32) (a1_old : Int32) (a1_shut : Int32) (a1_all : Int32) (a1_firstColumn : Int32) (a1_fitsAtFirst : Int32) (a1_paintingsOf0 : Int32) (a1_paintingsOf1 : Int32) (a1_ruledOut_ : Nat → Int32) (p2 : Int32) (p3 : Int32) (p4 : Int32) (p5 : Int32) (p6 : Int32) (r : Int32 × (Nat → Int32)), rec t_known_ a1_paintingsOf0 a1_paintingsOf1 a1_ruledOut_ p2 p3 p4 p5 p6 = some r → MM l yX0_wins (jW yX0_wins cX0_wins 10 (some .boolean)) ({ frames := fr, cells := 0, slots := 0, locals := lo }) D [.ref h_t, .ref h_a1, .int p2, .int p3, .int p4, .int p5, .int p6] [(h_t, .inr (0, [.ref h_t_known])), (h_t_known, jI D 4096 t_known_), (h_a1, .inr (2, [.int a1_rows, .int a1_columns, .int a1_paints, .int a1_apart, .int a1_paintsOf0, .int a1_paintsOf1, .int a1_old, .int a1_shut, .int a1_all, .int a1_firstColumn, .int a1_fitsAtFirst, .int a1_paintingsOf0, .int a1_paintingsOf1, .ref h_a1_ruledOut])), (h_a1_ruledOut, jI D 27 a1_ruledOut_)] (some (.int r.1)) (oX0_wins D h_t h_a1 h_t_known h_a1_ruledOut a1_rows a1_columns a1_paints a1_apart a1_paintsOf0 a1_paintsOf1 a1_old a1_shut a1_all a1_firstColumn a1_fitsAtFirst a1_paintingsOf0 a1_paintingsOf1 a1_ruledOut_ r)) (h_t : Nat) (h_a1 : Nat) (h_t_known : Nat) (h_a1_ruledOut : Nat) (t_known_ : Nat → Int32) (a1_rows : Int32) (a1_columns : Int32) (a1_paints : Int32) (a1_apart : Int32) (a1_paintsOf0 : Int32) (a1_paintsOf1 : Int32) (a1_old : Int32) (a1_shut : Int32) (a1_all : Int32) (a1_firstColumn : Int32) (a1_fitsAtFirst : Int32) (a1_paintingsOf0 : Int32) (a1_paintingsOf1 : Int32) (a1_ruledOut_ : Nat → Int32) (p2 : Int32) (p3 : Int32) (p4 : Int32) (p5 : Int32) (p6 : Int32) (r : Int32 × (Nat → Int32)) (h : fX0_hasWinning F rec t_known_ a1_paintingsOf0 a1_paintingsOf1 a1_ruledOut_ p2 p3 p4 p5 p6 = some r) : MM l yX0_hasWinning (jW yX0_hasWinning cX0_hasWinning 11 (some .boolean)) ({ frames := fr + 2, cells := 0, slots := 0, locals := lo + 43 }) D [.ref h_t, .ref h_a1, .int p2, .int p3, .int p4, .int p5, .int p6] [(h_t, .inr (0, [.ref h_t_known])), (h_t_known, jI D 4096 t_known_), (h_a1, .inr (2, [.int a1_rows, .int a1_columns, .int a1_paints, .int a1_apart, .int a1_paintsOf0, .int a1_paintsOf1, .int a1_old, .int a1_shut, .int a1_all, .int a1_firstColumn, .int a1_fitsAtFirst, .int a1_paintingsOf0, .int a1_paintingsOf1, .ref h_a1_ruledOut])), (h_a1_ruledOut, jI D 27 a1_ruledOut_)] (some (.int r.1)) (oX0_hasWinning D h_t h_a1 h_t_known h_a1_ruledOut a1_rows a1_columns a1_paints a1_apart a1_paintsOf0 a1_paintsOf1 a1_old a1_shut a1_all a1_firstColumn a1_fitsAtFirst a1_paintingsOf0 a1_paintingsOf1 a1_ruledOut_ r) := by
  refine mn_of hpX0_hasWinning (Nat.le_of_ble_eq_true rfl) ?_
  intro X hXl C E0 hN
  subst hXl
  replace C : JC D X 11 RX0 cX0_hasWinning ({ frames := fr + 2, cells := 0, slots := 0, locals := lo + 43 }) := C
  have E : JE D X 0 0 (some .boolean) (fun _ : Unit => (some (.int r.1))) (fun _ : Unit => (oX0_hasWinning D h_t h_a1 h_t_known h_a1_ruledOut a1_rows a1_columns a1_paints a1_apart a1_paintsOf0 a1_paintsOf1 a1_old a1_shut a1_all a1_firstColumn a1_fitsAtFirst a1_paintingsOf0 a1_paintingsOf1 a1_ruledOut_ r)) := E0 0 0 rfl rfl
  clear E0 hN
  show JJ D X 11 0 0 0 [(0, .ref h_t), (1, .ref h_a1), (2, .int p2), (3, .int p3), (4, .int p4), (5, .int p5), (6, .int p6)] [] [(h_t, .inr (0, [.ref h_t_known])), (h_t_known, jI D 4096 t_known_), (h_a1, .inr (2, [.int a1_rows, .int a1_columns, .int a1_paints, .int a1_apart, .int a1_paintsOf0, .int a1_paintsOf1, .int a1_old, .int a1_shut, .int a1_all, .int a1_firstColumn, .int a1_fitsAtFirst, .int a1_paintingsOf0, .int a1_paintingsOf1, .ref h_a1_ruledOut])), (h_a1_ruledOut, jI D 27 a1_ruledOut_)]
  unfold fX0_hasWinning at h
  have L13 : ∀ (x4 : Int32) (x5 : Int32) (m_t_known__6 : Nat → Int32), lX0_hasWinning_13 F rec a1_paintingsOf0 a1_paintingsOf1 a1_ruledOut_ p2 p3 p4 p5 p6  F x4 x5 m_t_known__6 = some r → JJ D X 11 0 0 13 [(0, .ref h_t), (1, .ref h_a1), (2, .int p2), (3, .int p3), (4, .int p4), (5, .int p5), (6, .int p6), (7, .int x4), (8, .int x5)] [] [(h_t, .inr (0, [.ref h_t_known])), (h_t_known, jI D 4096 m_t_known__6), (h_a1, .inr (2, [.int a1_rows, .int a1_columns, .int a1_paints, .int a1_apart, .int a1_paintsOf0, .int a1_paintsOf1, .int a1_old, .int a1_shut, .int a1_all, .int a1_firstColumn, .int a1_fitsAtFirst, .int a1_paintingsOf0, .int a1_paintingsOf1, .ref h_a1_ruledOut])), (h_a1_ruledOut, jI D 27 a1_ruledOut_)] := by
    intro x4 x5 m_t_known__6 h
    refine jl_ind3 (fun x4 x5 m_t_known__6 => JJ D X 11 0 0 13 [(0, .ref h_t), (1, .ref h_a1), (2, .int p2), (3, .int p3), (4, .int p4), (5, .int p5), (6, .int p6), (7, .int x4), (8, .int x5)] [] [(h_t, .inr (0, [.ref h_t_known])), (h_t_known, jI D 4096 m_t_known__6), (h_a1, .inr (2, [.int a1_rows, .int a1_columns, .int a1_paints, .int a1_apart, .int a1_paintsOf0, .int a1_paintsOf1, .int a1_old, .int a1_shut, .int a1_all, .int a1_firstColumn, .int a1_fitsAtFirst, .int a1_paintingsOf0, .int a1_paintingsOf1, .ref h_a1_ruledOut])), (h_a1_ruledOut, jI D 27 a1_ruledOut_)]) ?_ F x4 x5 m_t_known__6 h
    clear h x4 x5 m_t_known__6
    intro k13 i13 x4 x5 m_t_known__6 h
    replace i13 : ∀ (x4 : Int32) (x5 : Int32) (m_t_known__6 : Nat → Int32), k13 x4 x5 m_t_known__6 = some r → JJ D X 11 0 0 13 [(0, .ref h_t), (1, .ref h_a1), (2, .int p2), (3, .int p3), (4, .int p4), (5, .int p5), (6, .int p6), (7, .int x4), (8, .int x5)] [] [(h_t, .inr (0, [.ref h_t_known])), (h_t_known, jI D 4096 m_t_known__6), (h_a1, .inr (2, [.int a1_rows, .int a1_columns, .int a1_paints, .int a1_apart, .int a1_paintsOf0, .int a1_paintsOf1, .int a1_old, .int a1_shut, .int a1_all, .int a1_firstColumn, .int a1_fitsAtFirst, .int a1_paintingsOf0, .int a1_paintingsOf1, .ref h_a1_ruledOut])), (h_a1_ruledOut, jI D 27 a1_ruledOut_)] := i13
    show JJ D X 11 0 0 13 [(0, .ref h_t), (1, .ref h_a1), (2, .int p2), (3, .int p3), (4, .int p4), (5, .int p5), (6, .int p6), (7, .int x4), (8, .int x5)] [] [(h_t, .inr (0, [.ref h_t_known])), (h_t_known, jI D 4096 m_t_known__6), (h_a1, .inr (2, [.int a1_rows, .int a1_columns, .int a1_paints, .int a1_apart, .int a1_paintsOf0, .int a1_paintsOf1, .int a1_old, .int a1_shut, .int a1_all, .int a1_firstColumn, .int a1_fitsAtFirst, .int a1_paintingsOf0, .int a1_paintingsOf1, .ref h_a1_ruledOut])), (h_a1_ruledOut, jI D 27 a1_ruledOut_)]
    unfold bX0_hasWinning_13 at h
    refine j_iload C dX0_hasWinning_13 8 rfl ?_
    refine j_bipush C dX0_hasWinning_15 (v := (27 : Int32)) (by decide) ?_
    refine j_icmp_ge C (tgt := 95) dX0_hasWinning_17 (by decide) h (fun c7 h => ?_) (fun c7 h => ?_)
    · refine j_iconst C dX0_hasWinning_95 (v := (0 : Int32)) (by decide) ?_
      exact j_zretR C (r := r) (rtf := fun r => (some (.int r.1))) (wff := fun r => (oX0_hasWinning D h_t h_a1 h_t_known h_a1_ruledOut a1_rows a1_columns a1_paints a1_apart a1_paintsOf0 a1_paintsOf1 a1_old a1_shut a1_all a1_firstColumn a1_fitsAtFirst a1_paintingsOf0 a1_paintingsOf1 a1_ruledOut_ r)) E rfl h rfl rfl dX0_hasWinning_96
    · refine j_iload C dX0_hasWinning_20 7 rfl ?_
      refine j_if_eq C (tgt := 95) dX0_hasWinning_22 (by decide) h (fun c8 h => ?_) (fun c8 h => ?_)
      · refine j_iconst C dX0_hasWinning_95 (v := (0 : Int32)) (by decide) ?_
        exact j_zretR C (r := r) (rtf := fun r => (some (.int r.1))) (wff := fun r => (oX0_hasWinning D h_t h_a1 h_t_known h_a1_ruledOut a1_rows a1_columns a1_paints a1_apart a1_paintsOf0 a1_paintsOf1 a1_old a1_shut a1_all a1_firstColumn a1_fitsAtFirst a1_paintingsOf0 a1_paintingsOf1 a1_ruledOut_ r)) E rfl h rfl rfl dX0_hasWinning_96
      · refine j_iload C dX0_hasWinning_25 6 rfl ?_
        refine j_bipush C dX0_hasWinning_27 (v := (9 : Int32)) (by decide) ?_
        refine j_icmp_ge C (tgt := 95) dX0_hasWinning_29 (by decide) h (fun c9 h => ?_) (fun c9 h => ?_)
        · refine j_iconst C dX0_hasWinning_95 (v := (0 : Int32)) (by decide) ?_
          exact j_zretR C (r := r) (rtf := fun r => (some (.int r.1))) (wff := fun r => (oX0_hasWinning D h_t h_a1 h_t_known h_a1_ruledOut a1_rows a1_columns a1_paints a1_apart a1_paintsOf0 a1_paintsOf1 a1_old a1_shut a1_all a1_firstColumn a1_fitsAtFirst a1_paintingsOf0 a1_paintingsOf1 a1_ruledOut_ r)) E rfl h rfl rfl dX0_hasWinning_96
        · refine j_iload C dX0_hasWinning_32 7 rfl ?_
          refine j_iload C dX0_hasWinning_34 7 rfl ?_
          refine j_ineg C dX0_hasWinning_36 ?_
          refine j_iand C dX0_hasWinning_37 ?_
          refine j_istore C dX0_hasWinning_38 (lv' := fun v10 => [(9, .int v10), (0, .ref h_t), (1, .ref h_a1), (2, .int p2), (3, .int p3), (4, .int p4), (5, .int p5), (6, .int p6), (7, .int x4), (8, .int x5)]) (by decide) (fun _ => rfl) h (fun v10 h => ?_)
          refine j_iload C dX0_hasWinning_40 8 rfl ?_
          refine j_iload C dX0_hasWinning_42 0 rfl ?_
          refine j_iconst C dX0_hasWinning_44 (v := (-1 : Int32)) (by decide) ?_
          refine j_ixor C dX0_hasWinning_45 ?_
          refine j_iand C dX0_hasWinning_46 ?_
          refine j_istore C dX0_hasWinning_47 (lv' := fun v11 => [(7, .int v11), (9, .int v10), (0, .ref h_t), (1, .ref h_a1), (2, .int p2), (3, .int p3), (4, .int p4), (5, .int p5), (6, .int p6), (8, .int x5)]) (by decide) (fun _ => rfl) h (fun v11 h => ?_)
          refine j_iload C dX0_hasWinning_49 6 rfl ?_
          refine j_iload C dX0_hasWinning_51 1 rfl ?_
          obtain ⟨r12, q13, h⟩ := jl_bind h
          refine j_cS1 C (mX3_painted (jlaunch X) D v10 r12 q13) bmX0_48 btX3_painted bzX3 bcX3_painted hX3_painted (rest := [.int p4]) rfl (by refine ⟨rfl, rfl, ⟨?_, ?_⟩, ?_, ?_⟩ <;> dsimp only <;> omega) [] [0, 1, 2, 3] [0, 1, 2, 3] (wr := [(h_t, .inr (0, [.ref h_t_known])), (h_t_known, jI D 4096 m_t_known__6), (h_a1, .inr (2, [.int a1_rows, .int a1_columns, .int a1_paints, .int a1_apart, .int a1_paintsOf0, .int a1_paintsOf1, .int a1_old, .int a1_shut, .int a1_all, .int a1_firstColumn, .int a1_fitsAtFirst, .int a1_paintingsOf0, .int a1_paintingsOf1, .ref h_a1_ruledOut])), (h_a1_ruledOut, jI D 27 a1_ruledOut_)]) (ws2 := [(h_t, .inr (0, [.ref h_t_known])), (h_t_known, jI D 4096 m_t_known__6), (h_a1, .inr (2, [.int a1_rows, .int a1_columns, .int a1_paints, .int a1_apart, .int a1_paintsOf0, .int a1_paintsOf1, .int a1_old, .int a1_shut, .int a1_all, .int a1_firstColumn, .int a1_fitsAtFirst, .int a1_paintingsOf0, .int a1_paintingsOf1, .ref h_a1_ruledOut])), (h_a1_ruledOut, jI D 27 a1_ruledOut_)]) rfl rfl rfl rfl rfl (Nat.le_of_ble_eq_true rfl) dX0_hasWinning_53 ?_
          refine j_iconst C dX0_hasWinning_56 (v := (-1 : Int32)) (by decide) ?_
          refine j_ixor C dX0_hasWinning_57 ?_
          refine j_iand C dX0_hasWinning_58 ?_
          refine j_istore C dX0_hasWinning_59 (lv' := fun v14 => [(10, .int v14), (7, .int v11), (9, .int v10), (0, .ref h_t), (1, .ref h_a1), (2, .int p2), (3, .int p3), (4, .int p4), (5, .int p5), (6, .int p6), (8, .int x5)]) (by decide) (fun _ => rfl) h (fun v14 h => ?_)
          refine j_aload_n C dX0_hasWinning_61 rfl 3 rfl ?_
          refine j_aload_n C dX0_hasWinning_62 rfl 4 rfl ?_
          refine j_iload_n C dX0_hasWinning_63 rfl 5 rfl ?_
          refine j_aload_n C dX0_hasWinning_64 rfl 4 rfl ?_
          refine j_iload_n C dX0_hasWinning_65 rfl 6 rfl ?_
          refine j_iload C dX0_hasWinning_66 2 rfl ?_
          obtain ⟨r15, q16, h⟩ := jl_bind h
          refine j_cV1 C (mX3_fittingAfter (jlaunch X) D h_a1 h_a1_ruledOut a1_rows a1_columns a1_paints a1_apart a1_paintsOf0 a1_paintsOf1 a1_old a1_shut a1_all a1_firstColumn a1_fitsAtFirst a1_paintingsOf0 a1_paintingsOf1 a1_ruledOut_ p3 v10 r15 q16) bmX0_42 biX3_fittingAfter bsX3_fittingAfter bzX3 bcX3_fittingAfter rfl hX3_fittingAfter (rest := [.int p2, .ref h_a1, .ref h_t]) rfl (by refine ⟨rfl, rfl, ⟨?_, ?_⟩, ?_, ?_⟩ <;> dsimp only <;> omega) 0 (ci := 2) rfl rfl rfl [2, 3] [0, 1] [0, 1, 2, 3] (wr := [(h_t, .inr (0, [.ref h_t_known])), (h_t_known, jI D 4096 m_t_known__6)]) (ws2 := [(h_t, .inr (0, [.ref h_t_known])), (h_t_known, jI D 4096 m_t_known__6), (h_a1, .inr (2, [.int a1_rows, .int a1_columns, .int a1_paints, .int a1_apart, .int a1_paintsOf0, .int a1_paintsOf1, .int a1_old, .int a1_shut, .int a1_all, .int a1_firstColumn, .int a1_fitsAtFirst, .int a1_paintingsOf0, .int a1_paintingsOf1, .ref h_a1_ruledOut])), (h_a1_ruledOut, jI D 27 a1_ruledOut_)]) rfl rfl rfl rfl rfl (Nat.le_of_ble_eq_true rfl) dX0_hasWinning_68 ?_
          refine j_iload C dX0_hasWinning_71 0 rfl ?_
          refine j_iconst C dX0_hasWinning_73 (v := (1 : Int32)) (by decide) ?_
          refine j_iload C dX0_hasWinning_74 8 rfl ?_
          refine j_isub C dX0_hasWinning_76 ?_
          refine j_iload C dX0_hasWinning_77 9 rfl ?_
          refine j_iconst C dX0_hasWinning_79 (v := (1 : Int32)) (by decide) ?_
          refine j_iadd C dX0_hasWinning_80 ?_
          obtain ⟨r17, q18, h⟩ := jl_bind h
          refine j_cV1 C (hrec h_t h_a1 h_t_known h_a1_ruledOut m_t_known__6 a1_rows a1_columns a1_paints a1_apart a1_paintsOf0 a1_paintsOf1 a1_old a1_shut a1_all a1_firstColumn a1_fitsAtFirst a1_paintingsOf0 a1_paintingsOf1 a1_ruledOut_ p2 r15 v14 (((1 : Int32)) - p5) (p6 + ((1 : Int32))) r17 q18) bmX0_31 biX0_wins bsX0_wins bzX0 bcX0_wins rfl hX0_wins (rest := []) rfl (by refine ⟨rfl, rfl, ⟨?_, ?_⟩, ?_, ?_⟩ <;> dsimp only <;> omega) 0 (ci := 0) rfl rfl rfl [0, 1, 2, 3] [] [0, 1, 2, 3] (wr := []) (ws2 := [(h_t, .inr (0, [.ref h_t_known])), (h_t_known, jI D 4096 r17.2), (h_a1, .inr (2, [.int a1_rows, .int a1_columns, .int a1_paints, .int a1_apart, .int a1_paintsOf0, .int a1_paintsOf1, .int a1_old, .int a1_shut, .int a1_all, .int a1_firstColumn, .int a1_fitsAtFirst, .int a1_paintingsOf0, .int a1_paintingsOf1, .ref h_a1_ruledOut])), (h_a1_ruledOut, jI D 27 a1_ruledOut_)]) rfl rfl rfl rfl rfl (Nat.le_of_ble_eq_true rfl) dX0_hasWinning_81 ?_
          refine j_if_ne C (tgt := 89) dX0_hasWinning_84 (by decide) h (fun c19 h => ?_) (fun c19 h => ?_)
          · refine j_iconst C dX0_hasWinning_87 (v := (1 : Int32)) (by decide) ?_
            exact j_zretR C (r := r) (rtf := fun r => (some (.int r.1))) (wff := fun r => (oX0_hasWinning D h_t h_a1 h_t_known h_a1_ruledOut a1_rows a1_columns a1_paints a1_apart a1_paintsOf0 a1_paintsOf1 a1_old a1_shut a1_all a1_firstColumn a1_fitsAtFirst a1_paintingsOf0 a1_paintingsOf1 a1_ruledOut_ r)) E rfl h rfl rfl dX0_hasWinning_88
          · refine j_iinc C dX0_hasWinning_89 10 rfl (lv' := fun v20 => [(8, .int v20), (10, .int v14), (7, .int v11), (9, .int v10), (0, .ref h_t), (1, .ref h_a1), (2, .int p2), (3, .int p3), (4, .int p4), (5, .int p5), (6, .int p6)]) (by decide) (fun _ => rfl) h (fun v20 h => ?_)
            refine j_goto C dX0_hasWinning_92 (tgt := 13) (by decide) ?_
            refine j_sub (lv' := [(0, .ref h_t), (1, .ref h_a1), (2, .int p2), (3, .int p3), (4, .int p4), (5, .int p5), (6, .int p6), (7, .int v11), (8, .int v20)]) [4, 5, 6, 7, 8, 9, 10, 2, 0] rfl ?_
            exact i13 v11 v20 r17.2 h
  refine j_iload_n C dX0_hasWinning_0 rfl 3 rfl ?_
  refine j_aload_n C dX0_hasWinning_1 rfl 1 rfl ?_
  refine j_iload C dX0_hasWinning_2 5 rfl ?_
  obtain ⟨r1, q2, h⟩ := jl_bind h
  refine j_cV1 C (mX3_paintingsOf (jlaunch X) D h_a1 h_a1_ruledOut a1_rows a1_columns a1_paints a1_apart a1_paintsOf0 a1_paintsOf1 a1_old a1_shut a1_all a1_firstColumn a1_fitsAtFirst a1_paintingsOf0 a1_paintingsOf1 p5 r1 q2) bmX0_35 biX3_paintingsOf bsX3_paintingsOf bzX3 bcX3_paintingsOf rfl hX3_paintingsOf (rest := [.int p3]) rfl (by refine ⟨rfl, rfl, ⟨?_, ?_⟩, ?_, ?_⟩ <;> dsimp only <;> omega) 0 (ci := 2) rfl rfl rfl [2] [0, 1, 3] [0, 1, 3, 2] (wr := [(h_t, .inr (0, [.ref h_t_known])), (h_t_known, jI D 4096 t_known_), (h_a1_ruledOut, jI D 27 a1_ruledOut_)]) (ws2 := [(h_t, .inr (0, [.ref h_t_known])), (h_t_known, jI D 4096 t_known_), (h_a1, .inr (2, [.int a1_rows, .int a1_columns, .int a1_paints, .int a1_apart, .int a1_paintsOf0, .int a1_paintsOf1, .int a1_old, .int a1_shut, .int a1_all, .int a1_firstColumn, .int a1_fitsAtFirst, .int a1_paintingsOf0, .int a1_paintingsOf1, .ref h_a1_ruledOut])), (h_a1_ruledOut, jI D 27 a1_ruledOut_)]) rfl rfl rfl rfl rfl (Nat.le_of_ble_eq_true rfl) dX0_hasWinning_4 ?_
  refine j_iand C dX0_hasWinning_7 ?_
  refine j_istore C dX0_hasWinning_8 (lv' := fun v3 => [(7, .int v3), (0, .ref h_t), (1, .ref h_a1), (2, .int p2), (3, .int p3), (4, .int p4), (5, .int p5), (6, .int p6)]) (by decide) (fun _ => rfl) h (fun v3 h => ?_)
  refine j_iconst C dX0_hasWinning_10 (v := (0 : Int32)) (by decide) ?_
  refine j_istoreC C dX0_hasWinning_11 (lv' := [(8, .int ((0 : Int32))), (7, .int v3), (0, .ref h_t), (1, .ref h_a1), (2, .int p2), (3, .int p3), (4, .int p4), (5, .int p5), (6, .int p6)]) (by decide) rfl ?_
  refine j_sub (lv' := [(0, .ref h_t), (1, .ref h_a1), (2, .int p2), (3, .int p3), (4, .int p4), (5, .int p5), (6, .int p6), (7, .int v3), (8, .int ((0 : Int32)))]) [2, 3, 4, 5, 6, 7, 8, 1, 0] rfl ?_
  exact L13 v3 ((0 : Int32)) t_known_ h
theorem dX0_cellOf_0 : decode cX0_cellOf 0 = .ok (.iload_n 0, 1) := by decide +kernel
theorem dX0_cellOf_1 : decode cX0_cellOf 1 = .ok (.ldc 61, 2) := by decide +kernel
theorem dX0_cellOf_3 : decode cX0_cellOf 3 = .ok (.imul, 1) := by decide +kernel
theorem dX0_cellOf_4 : decode cX0_cellOf 4 = .ok (.bipush 20, 2) := by decide +kernel
theorem dX0_cellOf_6 : decode cX0_cellOf 6 = .ok (.iushr, 1) := by decide +kernel
theorem dX0_cellOf_7 : decode cX0_cellOf 7 = .ok (.ireturn, 1) := by decide +kernel
def fX0_cellOf (p0 : Int32) : Option (Int32) :=
(some (((p0 * ((-1640531535 : Int32))).toUInt32 >>> (((20 : Int32)).toUInt32 &&& Int32.toUInt32 31)).toInt32))
def oX0_cellOf (D : jv_D)  (r : Int32) : va_W := []
set_option maxHeartbeats 40000000 in
set_option maxRecDepth 100000 in
theorem mX0_cellOf (l : Launch) (D : jv_D) (p0 : Int32) (r : Int32) (h : fX0_cellOf p0 = some r) : MM l yX0_cellOf (jW yX0_cellOf cX0_cellOf 1 (some .int)) ({ frames := 0, cells := 0, slots := 0, locals := 0 }) D [.int p0] [] (some (.int r)) (oX0_cellOf D  r) := by
  refine mn_of hpX0_cellOf (Nat.le_of_ble_eq_true rfl) ?_
  intro X hXl C E0 hN
  subst hXl
  replace C : JC D X 1 RX0 cX0_cellOf ({ frames := 0, cells := 0, slots := 0, locals := 0 }) := C
  have E : JE D X 0 0 (some .int) (fun _ : Unit => (some (.int r))) (fun _ : Unit => (oX0_cellOf D  r)) := E0 0 0 rfl rfl
  clear E0 hN
  show JJ D X 1 0 0 0 [(0, .int p0)] [] []
  unfold fX0_cellOf at h
  refine j_iload_n C dX0_cellOf_0 rfl 0 rfl ?_
  refine j_ldc C bkX0_61 dX0_cellOf_1 ?_
  refine j_imul C dX0_cellOf_3 ?_
  refine j_bipush C dX0_cellOf_4 (v := (20 : Int32)) (by decide) ?_
  refine j_iushr C dX0_cellOf_6 ?_
  exact j_iretR C (r := r) (rtf := fun r => (some (.int r))) (wff := fun r => (oX0_cellOf D  r)) E h rfl rfl dX0_cellOf_7
theorem dX0_recall_0 : decode cX0_recall 0 = .ok (.iload_n 1, 1) := by decide +kernel
theorem dX0_recall_1 : decode cX0_recall 1 = .ok (.invokestatic 62, 3) := by decide +kernel
theorem dX0_recall_4 : decode cX0_recall 4 = .ok (.istore_n 2, 1) := by decide +kernel
theorem dX0_recall_5 : decode cX0_recall 5 = .ok (.iload_n 2, 1) := by decide +kernel
theorem dX0_recall_6 : decode cX0_recall 6 = .ok (.aload_n 0, 1) := by decide +kernel
theorem dX0_recall_7 : decode cX0_recall 7 = .ok (.getfield 11, 3) := by decide +kernel
theorem dX0_recall_10 : decode cX0_recall 10 = .ok (.arraylength, 1) := by decide +kernel
theorem dX0_recall_11 : decode cX0_recall 11 = .ok (.if_icmp .ge 15, 3) := by decide +kernel
theorem dX0_recall_14 : decode cX0_recall 14 = .ok (.aload_n 0, 1) := by decide +kernel
theorem dX0_recall_15 : decode cX0_recall 15 = .ok (.getfield 11, 3) := by decide +kernel
theorem dX0_recall_18 : decode cX0_recall 18 = .ok (.iload_n 2, 1) := by decide +kernel
theorem dX0_recall_19 : decode cX0_recall 19 = .ok (.iaload, 1) := by decide +kernel
theorem dX0_recall_20 : decode cX0_recall 20 = .ok (.iconst 2, 1) := by decide +kernel
theorem dX0_recall_21 : decode cX0_recall 21 = .ok (.iushr, 1) := by decide +kernel
theorem dX0_recall_22 : decode cX0_recall 22 = .ok (.iload_n 1, 1) := by decide +kernel
theorem dX0_recall_23 : decode cX0_recall 23 = .ok (.if_icmp .eq 5, 3) := by decide +kernel
theorem dX0_recall_26 : decode cX0_recall 26 = .ok (.iconst 0, 1) := by decide +kernel
theorem dX0_recall_27 : decode cX0_recall 27 = .ok (.ireturn, 1) := by decide +kernel
theorem dX0_recall_28 : decode cX0_recall 28 = .ok (.aload_n 0, 1) := by decide +kernel
theorem dX0_recall_29 : decode cX0_recall 29 = .ok (.getfield 11, 3) := by decide +kernel
theorem dX0_recall_32 : decode cX0_recall 32 = .ok (.iload_n 2, 1) := by decide +kernel
theorem dX0_recall_33 : decode cX0_recall 33 = .ok (.iaload, 1) := by decide +kernel
theorem dX0_recall_34 : decode cX0_recall 34 = .ok (.iconst 3, 1) := by decide +kernel
theorem dX0_recall_35 : decode cX0_recall 35 = .ok (.iand, 1) := by decide +kernel
theorem dX0_recall_36 : decode cX0_recall 36 = .ok (.ireturn, 1) := by decide +kernel
def fX0_recall (t_known_ : Nat → Int32) (p1 : Int32) : Option (Int32) :=
((fX0_cellOf p1).bind fun r1 =>
(if ((4096 : Int32)) ≤ r1 then
(some ((0 : Int32)))
else
(if r1 < 0 ∨ 4096 ≤ r1.toNatClampNeg then none else
(if (((t_known_ r1.toNatClampNeg).toUInt32 >>> (((2 : Int32)).toUInt32 &&& Int32.toUInt32 31)).toInt32) = p1 then
(if r1 < 0 ∨ 4096 ≤ r1.toNatClampNeg then none else
(some ((t_known_ r1.toNatClampNeg) &&& ((3 : Int32)))))
else
(some ((0 : Int32)))))))
def oX0_recall (D : jv_D) (h_t : Nat) (h_t_known : Nat) (t_known_ : Nat → Int32) (r : Int32) : va_W := [(h_t, .inr (0, [.ref h_t_known])), (h_t_known, jI D 4096 t_known_)]
set_option maxHeartbeats 40000000 in
set_option maxRecDepth 100000 in
theorem mX0_recall (l : Launch) (D : jv_D) (h_t : Nat) (h_t_known : Nat) (t_known_ : Nat → Int32) (p1 : Int32) (r : Int32) (h : fX0_recall t_known_ p1 = some r) : MM l yX0_recall (jW yX0_recall cX0_recall 3 (some .int)) ({ frames := 1, cells := 0, slots := 0, locals := 20 }) D [.ref h_t, .int p1] [(h_t, .inr (0, [.ref h_t_known])), (h_t_known, jI D 4096 t_known_)] (some (.int r)) (oX0_recall D h_t h_t_known t_known_ r) := by
  refine mn_of hpX0_recall (Nat.le_of_ble_eq_true rfl) ?_
  intro X hXl C E0 hN
  subst hXl
  replace C : JC D X 3 RX0 cX0_recall ({ frames := 1, cells := 0, slots := 0, locals := 20 }) := C
  have E : JE D X 0 0 (some .int) (fun _ : Unit => (some (.int r))) (fun _ : Unit => (oX0_recall D h_t h_t_known t_known_ r)) := E0 0 0 rfl rfl
  clear E0 hN
  show JJ D X 3 0 0 0 [(0, .ref h_t), (1, .int p1)] [] [(h_t, .inr (0, [.ref h_t_known])), (h_t_known, jI D 4096 t_known_)]
  unfold fX0_recall at h
  refine j_iload_n C dX0_recall_0 rfl 1 rfl ?_
  obtain ⟨r1, q2, h⟩ := jl_bind h
  refine j_cS1 C (mX0_cellOf (jlaunch X) D p1 r1 q2) bmX0_62 btX0_cellOf bzX0 bcX0_cellOf hX0_cellOf (rest := []) rfl (jroom_of rfl) [] [0, 1] [0, 1] (wr := [(h_t, .inr (0, [.ref h_t_known])), (h_t_known, jI D 4096 t_known_)]) (ws2 := [(h_t, .inr (0, [.ref h_t_known])), (h_t_known, jI D 4096 t_known_)]) rfl rfl rfl rfl rfl (Nat.le_of_ble_eq_true rfl) dX0_recall_1 ?_
  refine j_istore_nC C dX0_recall_4 rfl (lv' := [(2, .int r1), (0, .ref h_t), (1, .int p1)]) (by decide) rfl ?_
  refine j_iload_n C dX0_recall_5 rfl 0 rfl ?_
  refine j_aload_n C dX0_recall_6 rfl 1 rfl ?_
  refine j_get C ibX0 (ci := 0) 0 rfl rfl 0 (by decide) bfX0_11 (v := .ref h_t_known) rfl dX0_recall_7 ?_
  refine j_ilen C 1 rfl (v := (4096 : Int32)) (by decide) dX0_recall_10 ?_
  refine j_icmp_ge C (tgt := 26) dX0_recall_11 (by decide) h (fun c3 h => ?_) (fun c3 h => ?_)
  · refine j_iconst C dX0_recall_26 (v := (0 : Int32)) (by decide) ?_
    exact j_iretR C (r := r) (rtf := fun r => (some (.int r))) (wff := fun r => (oX0_recall D h_t h_t_known t_known_ r)) E h rfl rfl dX0_recall_27
  · refine j_aload_n C dX0_recall_14 rfl 1 rfl ?_
    refine j_get C ibX0 (ci := 0) 0 rfl rfl 0 (by decide) bfX0_11 (v := .ref h_t_known) rfl dX0_recall_15 ?_
    refine j_iload_n C dX0_recall_18 rfl 0 rfl ?_
    refine jl_inb h (fun b4 h => ?_)
    refine j_iald C 1 rfl b4 dX0_recall_19 ?_
    refine j_iconst C dX0_recall_20 (v := (2 : Int32)) (by decide) ?_
    refine j_iushr C dX0_recall_21 ?_
    refine j_iload_n C dX0_recall_22 rfl 2 rfl ?_
    refine j_icmp_eq C (tgt := 28) dX0_recall_23 (by decide) h (fun c5 h => ?_) (fun c5 h => ?_)
    · refine j_aload_n C dX0_recall_28 rfl 1 rfl ?_
      refine j_get C ibX0 (ci := 0) 0 rfl rfl 0 (by decide) bfX0_11 (v := .ref h_t_known) rfl dX0_recall_29 ?_
      refine j_iload_n C dX0_recall_32 rfl 0 rfl ?_
      refine jl_inb h (fun b6 h => ?_)
      refine j_iald C 1 rfl b6 dX0_recall_33 ?_
      refine j_iconst C dX0_recall_34 (v := (3 : Int32)) (by decide) ?_
      refine j_iand C dX0_recall_35 ?_
      exact j_iretR C (r := r) (rtf := fun r => (some (.int r))) (wff := fun r => (oX0_recall D h_t h_t_known t_known_ r)) E h rfl rfl dX0_recall_36
    · refine j_iconst C dX0_recall_26 (v := (0 : Int32)) (by decide) ?_
      exact j_iretR C (r := r) (rtf := fun r => (some (.int r))) (wff := fun r => (oX0_recall D h_t h_t_known t_known_ r)) E h rfl rfl dX0_recall_27
theorem dX0_note_0 : decode cX0_note 0 = .ok (.iload_n 1, 1) := by decide +kernel
theorem dX0_note_1 : decode cX0_note 1 = .ok (.invokestatic 62, 3) := by decide +kernel
theorem dX0_note_4 : decode cX0_note 4 = .ok (.istore_n 3, 1) := by decide +kernel
theorem dX0_note_5 : decode cX0_note 5 = .ok (.iload_n 3, 1) := by decide +kernel
theorem dX0_note_6 : decode cX0_note 6 = .ok (.aload_n 0, 1) := by decide +kernel
theorem dX0_note_7 : decode cX0_note 7 = .ok (.getfield 11, 3) := by decide +kernel
theorem dX0_note_10 : decode cX0_note 10 = .ok (.arraylength, 1) := by decide +kernel
theorem dX0_note_11 : decode cX0_note 11 = .ok (.if_icmp .ge 14, 3) := by decide +kernel
theorem dX0_note_14 : decode cX0_note 14 = .ok (.aload_n 0, 1) := by decide +kernel
theorem dX0_note_15 : decode cX0_note 15 = .ok (.getfield 11, 3) := by decide +kernel
theorem dX0_note_18 : decode cX0_note 18 = .ok (.iload_n 3, 1) := by decide +kernel
theorem dX0_note_19 : decode cX0_note 19 = .ok (.iload_n 1, 1) := by decide +kernel
theorem dX0_note_20 : decode cX0_note 20 = .ok (.iconst 2, 1) := by decide +kernel
theorem dX0_note_21 : decode cX0_note 21 = .ok (.ishl, 1) := by decide +kernel
theorem dX0_note_22 : decode cX0_note 22 = .ok (.iload_n 2, 1) := by decide +kernel
theorem dX0_note_23 : decode cX0_note 23 = .ok (.ior, 1) := by decide +kernel
theorem dX0_note_24 : decode cX0_note 24 = .ok (.iastore, 1) := by decide +kernel
theorem dX0_note_25 : decode cX0_note 25 = .ok (.return_, 1) := by decide +kernel
def fX0_note (t_known_ : Nat → Int32) (p1 : Int32) (p2 : Int32) : Option ((Nat → Int32)) :=
((fX0_cellOf p1).bind fun r1 =>
(if ((4096 : Int32)) ≤ r1 then
(some (t_known_))
else
(if r1 < 0 ∨ 4096 ≤ r1.toNatClampNeg then none else
(jl_let (upd t_known_ r1.toNatClampNeg ((p1 <<< (((2 : Int32)) &&& 31)) ||| p2)) fun g5 =>
(some (g5))))))
def oX0_note (D : jv_D) (h_t : Nat) (h_t_known : Nat) (r : (Nat → Int32)) : va_W := [(h_t, .inr (0, [.ref h_t_known])), (h_t_known, jI D 4096 r)]
set_option maxHeartbeats 40000000 in
set_option maxRecDepth 100000 in
theorem mX0_note (l : Launch) (D : jv_D) (h_t : Nat) (h_t_known : Nat) (t_known_ : Nat → Int32) (p1 : Int32) (p2 : Int32) (r : (Nat → Int32)) (h : fX0_note t_known_ p1 p2 = some r) : MM l yX0_note (jW yX0_note cX0_note 4 none) ({ frames := 1, cells := 0, slots := 0, locals := 20 }) D [.ref h_t, .int p1, .int p2] [(h_t, .inr (0, [.ref h_t_known])), (h_t_known, jI D 4096 t_known_)] none (oX0_note D h_t h_t_known r) := by
  refine mn_of hpX0_note (Nat.le_of_ble_eq_true rfl) ?_
  intro X hXl C E0 hN
  subst hXl
  replace C : JC D X 4 RX0 cX0_note ({ frames := 1, cells := 0, slots := 0, locals := 20 }) := C
  have E : JE D X 0 0 none (fun _ : Unit => none) (fun _ : Unit => (oX0_note D h_t h_t_known r)) := E0 0 0 rfl rfl
  clear E0 hN
  show JJ D X 4 0 0 0 [(0, .ref h_t), (1, .int p1), (2, .int p2)] [] [(h_t, .inr (0, [.ref h_t_known])), (h_t_known, jI D 4096 t_known_)]
  unfold fX0_note at h
  refine j_iload_n C dX0_note_0 rfl 1 rfl ?_
  obtain ⟨r1, q2, h⟩ := jl_bind h
  refine j_cS1 C (mX0_cellOf (jlaunch X) D p1 r1 q2) bmX0_62 btX0_cellOf bzX0 bcX0_cellOf hX0_cellOf (rest := []) rfl (jroom_of rfl) [] [0, 1] [0, 1] (wr := [(h_t, .inr (0, [.ref h_t_known])), (h_t_known, jI D 4096 t_known_)]) (ws2 := [(h_t, .inr (0, [.ref h_t_known])), (h_t_known, jI D 4096 t_known_)]) rfl rfl rfl rfl rfl (Nat.le_of_ble_eq_true rfl) dX0_note_1 ?_
  refine j_istore_nC C dX0_note_4 rfl (lv' := [(3, .int r1), (0, .ref h_t), (1, .int p1), (2, .int p2)]) (by decide) rfl ?_
  refine j_iload_n C dX0_note_5 rfl 0 rfl ?_
  refine j_aload_n C dX0_note_6 rfl 1 rfl ?_
  refine j_get C ibX0 (ci := 0) 0 rfl rfl 0 (by decide) bfX0_11 (v := .ref h_t_known) rfl dX0_note_7 ?_
  refine j_ilen C 1 rfl (v := (4096 : Int32)) (by decide) dX0_note_10 ?_
  refine j_icmp_ge C (tgt := 25) dX0_note_11 (by decide) h (fun c3 h => ?_) (fun c3 h => ?_)
  · exact j_vretR C (r := r) (rtf := fun r => none) (wff := fun r => (oX0_note D h_t h_t_known r)) E h rfl rfl dX0_note_25
  · refine j_aload_n C dX0_note_14 rfl 1 rfl ?_
    refine j_get C ibX0 (ci := 0) 0 rfl rfl 0 (by decide) bfX0_11 (v := .ref h_t_known) rfl dX0_note_15 ?_
    refine j_iload_n C dX0_note_18 rfl 0 rfl ?_
    refine j_iload_n C dX0_note_19 rfl 2 rfl ?_
    refine j_iconst C dX0_note_20 (v := (2 : Int32)) (by decide) ?_
    refine j_ishl C dX0_note_21 ?_
    refine j_iload_n C dX0_note_22 rfl 3 rfl ?_
    refine j_ior C dX0_note_23 ?_
    refine jl_inb h (fun b4 h => ?_)
    refine j_iast C 1 rfl b4 dX0_note_24 (ws' := fun g5 => [(h_t, .inr (0, [.ref h_t_known])), (h_t_known, jI D 4096 g5)]) (fun _ => rfl) h (fun g5 h => ?_)
    exact j_vretR C (r := r) (rtf := fun r => none) (wff := fun r => (oX0_note D h_t h_t_known r)) E h rfl rfl dX0_note_25
theorem dX0_wins_0 : decode cX0_wins 0 = .ok (.iload_n 2, 1) := by decide +kernel
theorem dX0_wins_1 : decode cX0_wins 1 = .ok (.iconst 2, 1) := by decide +kernel
theorem dX0_wins_2 : decode cX0_wins 2 = .ok (.if_icmp .eq 27, 3) := by decide +kernel
theorem dX0_wins_5 : decode cX0_wins 5 = .ok (.iload 4, 2) := by decide +kernel
theorem dX0_wins_7 : decode cX0_wins 7 = .ok (.iload_n 3, 1) := by decide +kernel
theorem dX0_wins_8 : decode cX0_wins 8 = .ok (.invokestatic 48, 3) := by decide +kernel
theorem dX0_wins_11 : decode cX0_wins 11 = .ok (.iconst (-1), 1) := by decide +kernel
theorem dX0_wins_12 : decode cX0_wins 12 = .ok (.ixor, 1) := by decide +kernel
theorem dX0_wins_13 : decode cX0_wins 13 = .ok (.iand, 1) := by decide +kernel
theorem dX0_wins_14 : decode cX0_wins 14 = .ok (.ifCond .eq 15, 3) := by decide +kernel
theorem dX0_wins_17 : decode cX0_wins 17 = .ok (.iload 5, 2) := by decide +kernel
theorem dX0_wins_19 : decode cX0_wins 19 = .ok (.iload_n 2, 1) := by decide +kernel
theorem dX0_wins_20 : decode cX0_wins 20 = .ok (.if_icmp .eq 7, 3) := by decide +kernel
theorem dX0_wins_23 : decode cX0_wins 23 = .ok (.iconst 1, 1) := by decide +kernel
theorem dX0_wins_24 : decode cX0_wins 24 = .ok (.goto 4, 3) := by decide +kernel
theorem dX0_wins_27 : decode cX0_wins 27 = .ok (.iconst 0, 1) := by decide +kernel
theorem dX0_wins_28 : decode cX0_wins 28 = .ok (.ireturn, 1) := by decide +kernel
theorem dX0_wins_29 : decode cX0_wins 29 = .ok (.iload_n 3, 1) := by decide +kernel
theorem dX0_wins_30 : decode cX0_wins 30 = .ok (.aload_n 1, 1) := by decide +kernel
theorem dX0_wins_31 : decode cX0_wins 31 = .ok (.iload 5, 2) := by decide +kernel
theorem dX0_wins_33 : decode cX0_wins 33 = .ok (.invokevirtual 35, 3) := by decide +kernel
theorem dX0_wins_36 : decode cX0_wins 36 = .ok (.iand, 1) := by decide +kernel
theorem dX0_wins_37 : decode cX0_wins 37 = .ok (.ifCond .ne 38, 3) := by decide +kernel
theorem dX0_wins_40 : decode cX0_wins 40 = .ok (.iload_n 2, 1) := by decide +kernel
theorem dX0_wins_41 : decode cX0_wins 41 = .ok (.iconst 2, 1) := by decide +kernel
theorem dX0_wins_42 : decode cX0_wins 42 = .ok (.if_icmp .eq 31, 3) := by decide +kernel
theorem dX0_wins_45 : decode cX0_wins 45 = .ok (.iload 4, 2) := by decide +kernel
theorem dX0_wins_47 : decode cX0_wins 47 = .ok (.ifCond .ne 7, 3) := by decide +kernel
theorem dX0_wins_50 : decode cX0_wins 50 = .ok (.iconst 1, 1) := by decide +kernel
theorem dX0_wins_51 : decode cX0_wins 51 = .ok (.goto 4, 3) := by decide +kernel
theorem dX0_wins_54 : decode cX0_wins 54 = .ok (.iconst 0, 1) := by decide +kernel
theorem dX0_wins_55 : decode cX0_wins 55 = .ok (.iload 5, 2) := by decide +kernel
theorem dX0_wins_57 : decode cX0_wins 57 = .ok (.iload_n 2, 1) := by decide +kernel
theorem dX0_wins_58 : decode cX0_wins 58 = .ok (.if_icmp .ne 7, 3) := by decide +kernel
theorem dX0_wins_61 : decode cX0_wins 61 = .ok (.iconst 1, 1) := by decide +kernel
theorem dX0_wins_62 : decode cX0_wins 62 = .ok (.goto 4, 3) := by decide +kernel
theorem dX0_wins_65 : decode cX0_wins 65 = .ok (.iconst 0, 1) := by decide +kernel
theorem dX0_wins_66 : decode cX0_wins 66 = .ok (.if_icmp .ne 7, 3) := by decide +kernel
theorem dX0_wins_69 : decode cX0_wins 69 = .ok (.iconst 1, 1) := by decide +kernel
theorem dX0_wins_70 : decode cX0_wins 70 = .ok (.goto 4, 3) := by decide +kernel
theorem dX0_wins_73 : decode cX0_wins 73 = .ok (.iconst 0, 1) := by decide +kernel
theorem dX0_wins_74 : decode cX0_wins 74 = .ok (.ireturn, 1) := by decide +kernel
theorem dX0_wins_75 : decode cX0_wins 75 = .ok (.iload_n 3, 1) := by decide +kernel
theorem dX0_wins_76 : decode cX0_wins 76 = .ok (.iconst 1, 1) := by decide +kernel
theorem dX0_wins_77 : decode cX0_wins 77 = .ok (.ishl, 1) := by decide +kernel
theorem dX0_wins_78 : decode cX0_wins 78 = .ok (.iload 5, 2) := by decide +kernel
theorem dX0_wins_80 : decode cX0_wins 80 = .ok (.ior, 1) := by decide +kernel
theorem dX0_wins_81 : decode cX0_wins 81 = .ok (.iconst 2, 1) := by decide +kernel
theorem dX0_wins_82 : decode cX0_wins 82 = .ok (.ishl, 1) := by decide +kernel
theorem dX0_wins_83 : decode cX0_wins 83 = .ok (.iload_n 2, 1) := by decide +kernel
theorem dX0_wins_84 : decode cX0_wins 84 = .ok (.ior, 1) := by decide +kernel
theorem dX0_wins_85 : decode cX0_wins 85 = .ok (.istore 7, 2) := by decide +kernel
theorem dX0_wins_87 : decode cX0_wins 87 = .ok (.aload_n 0, 1) := by decide +kernel
theorem dX0_wins_88 : decode cX0_wins 88 = .ok (.iload 7, 2) := by decide +kernel
theorem dX0_wins_90 : decode cX0_wins 90 = .ok (.invokevirtual 51, 3) := by decide +kernel
theorem dX0_wins_93 : decode cX0_wins 93 = .ok (.istore 8, 2) := by decide +kernel
theorem dX0_wins_95 : decode cX0_wins 95 = .ok (.iload 8, 2) := by decide +kernel
theorem dX0_wins_97 : decode cX0_wins 97 = .ok (.ifCond .eq 15, 3) := by decide +kernel
theorem dX0_wins_100 : decode cX0_wins 100 = .ok (.iload 8, 2) := by decide +kernel
theorem dX0_wins_102 : decode cX0_wins 102 = .ok (.iconst 2, 1) := by decide +kernel
theorem dX0_wins_103 : decode cX0_wins 103 = .ok (.if_icmp .ne 7, 3) := by decide +kernel
theorem dX0_wins_106 : decode cX0_wins 106 = .ok (.iconst 1, 1) := by decide +kernel
theorem dX0_wins_107 : decode cX0_wins 107 = .ok (.goto 4, 3) := by decide +kernel
theorem dX0_wins_110 : decode cX0_wins 110 = .ok (.iconst 0, 1) := by decide +kernel
theorem dX0_wins_111 : decode cX0_wins 111 = .ok (.ireturn, 1) := by decide +kernel
theorem dX0_wins_112 : decode cX0_wins 112 = .ok (.aload_n 0, 1) := by decide +kernel
theorem dX0_wins_113 : decode cX0_wins 113 = .ok (.aload_n 1, 1) := by decide +kernel
theorem dX0_wins_114 : decode cX0_wins 114 = .ok (.iload_n 2, 1) := by decide +kernel
theorem dX0_wins_115 : decode cX0_wins 115 = .ok (.iload_n 3, 1) := by decide +kernel
theorem dX0_wins_116 : decode cX0_wins 116 = .ok (.iload 4, 2) := by decide +kernel
theorem dX0_wins_118 : decode cX0_wins 118 = .ok (.iload 5, 2) := by decide +kernel
theorem dX0_wins_120 : decode cX0_wins 120 = .ok (.iload 6, 2) := by decide +kernel
theorem dX0_wins_122 : decode cX0_wins 122 = .ok (.invokevirtual 54, 3) := by decide +kernel
theorem dX0_wins_125 : decode cX0_wins 125 = .ok (.istore 9, 2) := by decide +kernel
theorem dX0_wins_127 : decode cX0_wins 127 = .ok (.aload_n 0, 1) := by decide +kernel
theorem dX0_wins_128 : decode cX0_wins 128 = .ok (.iload 7, 2) := by decide +kernel
theorem dX0_wins_130 : decode cX0_wins 130 = .ok (.iload 9, 2) := by decide +kernel
theorem dX0_wins_132 : decode cX0_wins 132 = .ok (.ifCond .eq 7, 3) := by decide +kernel
theorem dX0_wins_135 : decode cX0_wins 135 = .ok (.iconst 2, 1) := by decide +kernel
theorem dX0_wins_136 : decode cX0_wins 136 = .ok (.goto 4, 3) := by decide +kernel
theorem dX0_wins_139 : decode cX0_wins 139 = .ok (.iconst 1, 1) := by decide +kernel
theorem dX0_wins_140 : decode cX0_wins 140 = .ok (.invokevirtual 57, 3) := by decide +kernel
theorem dX0_wins_143 : decode cX0_wins 143 = .ok (.iload 9, 2) := by decide +kernel
theorem dX0_wins_145 : decode cX0_wins 145 = .ok (.ireturn, 1) := by decide +kernel
def fX0_wins_140 (F : Nat) (rec : (Nat → Int32) → Int32 → Int32 → (Nat → Int32) → Int32 → Int32 → Int32 → Int32 → Int32 → Option (Int32 × (Nat → Int32))) (a1_paintingsOf0 : Int32) (a1_paintingsOf1 : Int32) (a1_ruledOut_ : Nat → Int32) (p2 : Int32) (p3 : Int32) (p4 : Int32) (p5 : Int32) (p6 : Int32)  (x22 : Int32) (s23 : Int32) (s24 : Int32) (m_t_known__25 : Nat → Int32) : Option (Int32 × (Nat → Int32)) :=
((fX0_note m_t_known__25 s24 s23).bind fun r31 =>
(if x22 = 0 ∨ x22 = 1 then (some (x22, r31)) else none))
def fX0_wins_66 (F : Nat) (rec : (Nat → Int32) → Int32 → Int32 → (Nat → Int32) → Int32 → Int32 → Int32 → Int32 → Int32 → Option (Int32 × (Nat → Int32))) (a1_paintingsOf0 : Int32) (a1_paintingsOf1 : Int32) (a1_ruledOut_ : Nat → Int32) (p2 : Int32) (p3 : Int32) (p4 : Int32) (p5 : Int32) (p6 : Int32)  (s28 : Int32) (s29 : Int32) (m_t_known__30 : Nat → Int32) : Option (Int32 × (Nat → Int32)) :=
(if s29 = s28 then
(some ((1 : Int32), m_t_known__30))
else
(some ((0 : Int32), m_t_known__30)))
def fX0_wins_55 (F : Nat) (rec : (Nat → Int32) → Int32 → Int32 → (Nat → Int32) → Int32 → Int32 → Int32 → Int32 → Int32 → Option (Int32 × (Nat → Int32))) (a1_paintingsOf0 : Int32) (a1_paintingsOf1 : Int32) (a1_ruledOut_ : Nat → Int32) (p2 : Int32) (p3 : Int32) (p4 : Int32) (p5 : Int32) (p6 : Int32)  (s12 : Int32) (m_t_known__13 : Nat → Int32) : Option (Int32 × (Nat → Int32)) :=
(if p5 = p2 then
(fX0_wins_66 F rec a1_paintingsOf0 a1_paintingsOf1 a1_ruledOut_ p2 p3 p4 p5 p6 ((1 : Int32)) s12 m_t_known__13)
else
(fX0_wins_66 F rec a1_paintingsOf0 a1_paintingsOf1 a1_ruledOut_ p2 p3 p4 p5 p6 ((0 : Int32)) s12 m_t_known__13))
def fX0_wins_29 (F : Nat) (rec : (Nat → Int32) → Int32 → Int32 → (Nat → Int32) → Int32 → Int32 → Int32 → Int32 → Int32 → Option (Int32 × (Nat → Int32))) (a1_paintingsOf0 : Int32) (a1_paintingsOf1 : Int32) (a1_ruledOut_ : Nat → Int32) (p2 : Int32) (p3 : Int32) (p4 : Int32) (p5 : Int32) (p6 : Int32)  (m_t_known__2 : Nat → Int32) : Option (Int32 × (Nat → Int32)) :=
((fX3_paintingsOf a1_paintingsOf0 a1_paintingsOf1 p5).bind fun r7 =>
(if (p3 &&& r7) = 0 then
(if p2 = ((2 : Int32)) then
(some ((0 : Int32), m_t_known__2))
else
(if p4 = 0 then
(fX0_wins_55 F rec a1_paintingsOf0 a1_paintingsOf1 a1_ruledOut_ p2 p3 p4 p5 p6 ((1 : Int32)) m_t_known__2)
else
(fX0_wins_55 F rec a1_paintingsOf0 a1_paintingsOf1 a1_ruledOut_ p2 p3 p4 p5 p6 ((0 : Int32)) m_t_known__2)))
else
(jl_let ((((p3 <<< (((1 : Int32)) &&& 31)) ||| p5) <<< (((2 : Int32)) &&& 31)) ||| p2) fun v14 =>
((fX0_recall m_t_known__2 v14).bind fun r15 =>
(if r15 = 0 then
((fX0_hasWinning F rec m_t_known__2 a1_paintingsOf0 a1_paintingsOf1 a1_ruledOut_ p2 p3 p4 p5 p6).bind fun r18 =>
(jl_let r18.1 fun v20 =>
(if v20 = 0 then
(fX0_wins_140 F rec a1_paintingsOf0 a1_paintingsOf1 a1_ruledOut_ p2 p3 p4 p5 p6 v20 ((1 : Int32)) v14 r18.2)
else
(fX0_wins_140 F rec a1_paintingsOf0 a1_paintingsOf1 a1_ruledOut_ p2 p3 p4 p5 p6 v20 ((2 : Int32)) v14 r18.2))))
else
(if r15 = ((2 : Int32)) then
(some ((1 : Int32), m_t_known__2))
else
(some ((0 : Int32), m_t_known__2))))))))
def gX0_wins (F : Nat) (rec : (Nat → Int32) → Int32 → Int32 → (Nat → Int32) → Int32 → Int32 → Int32 → Int32 → Int32 → Option (Int32 × (Nat → Int32))) (t_known_ : Nat → Int32) (a1_paintingsOf0 : Int32) (a1_paintingsOf1 : Int32) (a1_ruledOut_ : Nat → Int32) (p2 : Int32) (p3 : Int32) (p4 : Int32) (p5 : Int32) (p6 : Int32) : Option (Int32 × (Nat → Int32)) :=
(if p2 = ((2 : Int32)) then
(fX0_wins_29 F rec a1_paintingsOf0 a1_paintingsOf1 a1_ruledOut_ p2 p3 p4 p5 p6 t_known_)
else
((fX3_painted p3).bind fun r3 =>
(if (p4 &&& (r3 ^^^ ((-1 : Int32)))) = 0 then
(fX0_wins_29 F rec a1_paintingsOf0 a1_paintingsOf1 a1_ruledOut_ p2 p3 p4 p5 p6 t_known_)
else
(if p5 = p2 then
(some ((0 : Int32), t_known_))
else
(some ((1 : Int32), t_known_))))))
def fX0_wins (F : Nat) (d : Nat) (t_known_ : Nat → Int32) (a1_paintingsOf0 : Int32) (a1_paintingsOf1 : Int32) (a1_ruledOut_ : Nat → Int32) (p2 : Int32) (p3 : Int32) (p4 : Int32) (p5 : Int32) (p6 : Int32) : Option (Int32 × (Nat → Int32)) := jl_loop9 (fun rec => gX0_wins F rec) d t_known_ a1_paintingsOf0 a1_paintingsOf1 a1_ruledOut_ p2 p3 p4 p5 p6
set_option maxHeartbeats 40000000 in
set_option maxRecDepth 100000 in
theorem mgX0_wins (l : Launch) (D : jv_D) (F : Nat) (rec : (Nat → Int32) → Int32 → Int32 → (Nat → Int32) → Int32 → Int32 → Int32 → Int32 → Int32 → Option (Int32 × (Nat → Int32))) (fr lo : Nat) (hrec : ∀ (h_t : Nat) (h_a1 : Nat) (h_t_known : Nat) (h_a1_ruledOut : Nat) (t_known_ : Nat → Int32) (a1_rows : Int32) (a1_columns : Int32) (a1_paints : Int32) (a1_apart : Int32) (a1_paintsOf0 : Int32) (a1_paintsOf1 : Int32) (a1_old : Int32) (a1_shut : Int32) (a1_all : Int32) (a1_firstColumn : Int32) (a1_fitsAtFirst : Int32) (a1_paintingsOf0 : Int32) (a1_paintingsOf1 : Int32) (a1_ruledOut_ : Nat → Int32) (p2 : Int32) (p3 : Int32) (p4 : Int32) (p5 : Int32) (p6 : Int32) (r : Int32 × (Nat → Int32)), rec t_known_ a1_paintingsOf0 a1_paintingsOf1 a1_ruledOut_ p2 p3 p4 p5 p6 = some r → MM l yX0_wins (jW yX0_wins cX0_wins 10 (some .boolean)) ({ frames := fr, cells := 0, slots := 0, locals := lo }) D [.ref h_t, .ref h_a1, .int p2, .int p3, .int p4, .int p5, .int p6] [(h_t, .inr (0, [.ref h_t_known])), (h_t_known, jI D 4096 t_known_), (h_a1, .inr (2, [.int a1_rows, .int a1_columns, .int a1_paints, .int a1_apart, .int a1_paintsOf0, .int a1_paintsOf1, .int a1_old, .int a1_shut, .int a1_all, .int a1_firstColumn, .int a1_fitsAtFirst, .int a1_paintingsOf0, .int a1_paintingsOf1, .ref h_a1_ruledOut])), (h_a1_ruledOut, jI D 27 a1_ruledOut_)] (some (.int r.1)) (oX0_wins D h_t h_a1 h_t_known h_a1_ruledOut a1_rows a1_columns a1_paints a1_apart a1_paintsOf0 a1_paintsOf1 a1_old a1_shut a1_all a1_firstColumn a1_fitsAtFirst a1_paintingsOf0 a1_paintingsOf1 a1_ruledOut_ r)) (h_t : Nat) (h_a1 : Nat) (h_t_known : Nat) (h_a1_ruledOut : Nat) (t_known_ : Nat → Int32) (a1_rows : Int32) (a1_columns : Int32) (a1_paints : Int32) (a1_apart : Int32) (a1_paintsOf0 : Int32) (a1_paintsOf1 : Int32) (a1_old : Int32) (a1_shut : Int32) (a1_all : Int32) (a1_firstColumn : Int32) (a1_fitsAtFirst : Int32) (a1_paintingsOf0 : Int32) (a1_paintingsOf1 : Int32) (a1_ruledOut_ : Nat → Int32) (p2 : Int32) (p3 : Int32) (p4 : Int32) (p5 : Int32) (p6 : Int32) (r : Int32 × (Nat → Int32)) (h : gX0_wins F rec t_known_ a1_paintingsOf0 a1_paintingsOf1 a1_ruledOut_ p2 p3 p4 p5 p6 = some r) : MM l yX0_wins (jW yX0_wins cX0_wins 10 (some .boolean)) ({ frames := fr + 3, cells := 0, slots := 0, locals := lo + 73 }) D [.ref h_t, .ref h_a1, .int p2, .int p3, .int p4, .int p5, .int p6] [(h_t, .inr (0, [.ref h_t_known])), (h_t_known, jI D 4096 t_known_), (h_a1, .inr (2, [.int a1_rows, .int a1_columns, .int a1_paints, .int a1_apart, .int a1_paintsOf0, .int a1_paintsOf1, .int a1_old, .int a1_shut, .int a1_all, .int a1_firstColumn, .int a1_fitsAtFirst, .int a1_paintingsOf0, .int a1_paintingsOf1, .ref h_a1_ruledOut])), (h_a1_ruledOut, jI D 27 a1_ruledOut_)] (some (.int r.1)) (oX0_wins D h_t h_a1 h_t_known h_a1_ruledOut a1_rows a1_columns a1_paints a1_apart a1_paintsOf0 a1_paintsOf1 a1_old a1_shut a1_all a1_firstColumn a1_fitsAtFirst a1_paintingsOf0 a1_paintingsOf1 a1_ruledOut_ r) := by
  refine mn_of hpX0_wins (Nat.le_of_ble_eq_true rfl) ?_
  intro X hXl C E0 hN
  subst hXl
  replace C : JC D X 10 RX0 cX0_wins ({ frames := fr + 3, cells := 0, slots := 0, locals := lo + 73 }) := C
  have E : JE D X 0 0 (some .boolean) (fun _ : Unit => (some (.int r.1))) (fun _ : Unit => (oX0_wins D h_t h_a1 h_t_known h_a1_ruledOut a1_rows a1_columns a1_paints a1_apart a1_paintsOf0 a1_paintsOf1 a1_old a1_shut a1_all a1_firstColumn a1_fitsAtFirst a1_paintingsOf0 a1_paintingsOf1 a1_ruledOut_ r)) := E0 0 0 rfl rfl
  clear E0 hN
  show JJ D X 10 0 0 0 [(0, .ref h_t), (1, .ref h_a1), (2, .int p2), (3, .int p3), (4, .int p4), (5, .int p5), (6, .int p6)] [] [(h_t, .inr (0, [.ref h_t_known])), (h_t_known, jI D 4096 t_known_), (h_a1, .inr (2, [.int a1_rows, .int a1_columns, .int a1_paints, .int a1_apart, .int a1_paintsOf0, .int a1_paintsOf1, .int a1_old, .int a1_shut, .int a1_all, .int a1_firstColumn, .int a1_fitsAtFirst, .int a1_paintingsOf0, .int a1_paintingsOf1, .ref h_a1_ruledOut])), (h_a1_ruledOut, jI D 27 a1_ruledOut_)]
  unfold gX0_wins at h
  have L140 : ∀ (x22 : Int32) (s23 : Int32) (s24 : Int32) (m_t_known__25 : Nat → Int32), fX0_wins_140 F rec a1_paintingsOf0 a1_paintingsOf1 a1_ruledOut_ p2 p3 p4 p5 p6  x22 s23 s24 m_t_known__25 = some r → JJ D X 10 0 0 140 [(9, .int x22)] [.int s23, .int s24, .ref h_t] [(h_t, .inr (0, [.ref h_t_known])), (h_t_known, jI D 4096 m_t_known__25), (h_a1, .inr (2, [.int a1_rows, .int a1_columns, .int a1_paints, .int a1_apart, .int a1_paintsOf0, .int a1_paintsOf1, .int a1_old, .int a1_shut, .int a1_all, .int a1_firstColumn, .int a1_fitsAtFirst, .int a1_paintingsOf0, .int a1_paintingsOf1, .ref h_a1_ruledOut])), (h_a1_ruledOut, jI D 27 a1_ruledOut_)] := by
    intro x22 s23 s24 m_t_known__25 h
    unfold fX0_wins_140 at h
    obtain ⟨r31, q32, h⟩ := jl_bind h
    refine j_cV0 C (mX0_note (jlaunch X) D h_t h_t_known m_t_known__25 s24 s23 r31 q32) bmX0_57 biX0_note bsX0_note bzX0 bcX0_note rfl hX0_note (rest := []) rfl (by refine ⟨rfl, rfl, ⟨?_, ?_⟩, ?_, ?_⟩ <;> dsimp only <;> omega) 0 (ci := 0) rfl rfl rfl [0, 1] [2, 3] [2, 3, 0, 1] (wr := [(h_a1, .inr (2, [.int a1_rows, .int a1_columns, .int a1_paints, .int a1_apart, .int a1_paintsOf0, .int a1_paintsOf1, .int a1_old, .int a1_shut, .int a1_all, .int a1_firstColumn, .int a1_fitsAtFirst, .int a1_paintingsOf0, .int a1_paintingsOf1, .ref h_a1_ruledOut])), (h_a1_ruledOut, jI D 27 a1_ruledOut_)]) (ws2 := [(h_t, .inr (0, [.ref h_t_known])), (h_t_known, jI D 4096 r31), (h_a1, .inr (2, [.int a1_rows, .int a1_columns, .int a1_paints, .int a1_apart, .int a1_paintsOf0, .int a1_paintsOf1, .int a1_old, .int a1_shut, .int a1_all, .int a1_firstColumn, .int a1_fitsAtFirst, .int a1_paintingsOf0, .int a1_paintingsOf1, .ref h_a1_ruledOut])), (h_a1_ruledOut, jI D 27 a1_ruledOut_)]) rfl rfl rfl rfl rfl (Nat.le_of_ble_eq_true rfl) dX0_wins_140 ?_
    refine j_iload C dX0_wins_143 0 rfl ?_
    refine jl_grd2 h (fun b33 h => ?_)
    exact j_zretR C (r := r) (rtf := fun r => (some (.int r.1))) (wff := fun r => (oX0_wins D h_t h_a1 h_t_known h_a1_ruledOut a1_rows a1_columns a1_paints a1_apart a1_paintsOf0 a1_paintsOf1 a1_old a1_shut a1_all a1_firstColumn a1_fitsAtFirst a1_paintingsOf0 a1_paintingsOf1 a1_ruledOut_ r)) E (jl_z01 b33) h rfl rfl dX0_wins_145
  have L66 : ∀ (s28 : Int32) (s29 : Int32) (m_t_known__30 : Nat → Int32), fX0_wins_66 F rec a1_paintingsOf0 a1_paintingsOf1 a1_ruledOut_ p2 p3 p4 p5 p6  s28 s29 m_t_known__30 = some r → JJ D X 10 0 0 66 [] [.int s28, .int s29] [(h_t, .inr (0, [.ref h_t_known])), (h_t_known, jI D 4096 m_t_known__30), (h_a1, .inr (2, [.int a1_rows, .int a1_columns, .int a1_paints, .int a1_apart, .int a1_paintsOf0, .int a1_paintsOf1, .int a1_old, .int a1_shut, .int a1_all, .int a1_firstColumn, .int a1_fitsAtFirst, .int a1_paintingsOf0, .int a1_paintingsOf1, .ref h_a1_ruledOut])), (h_a1_ruledOut, jI D 27 a1_ruledOut_)] := by
    intro s28 s29 m_t_known__30 h
    unfold fX0_wins_66 at h
    refine j_icmp_ne C (tgt := 73) dX0_wins_66 (by decide) h (fun c34 h => ?_) (fun c34 h => ?_)
    · refine j_iconst C dX0_wins_69 (v := (1 : Int32)) (by decide) ?_
      refine j_goto C dX0_wins_70 (tgt := 74) (by decide) ?_
      exact j_zretR C (r := r) (rtf := fun r => (some (.int r.1))) (wff := fun r => (oX0_wins D h_t h_a1 h_t_known h_a1_ruledOut a1_rows a1_columns a1_paints a1_apart a1_paintsOf0 a1_paintsOf1 a1_old a1_shut a1_all a1_firstColumn a1_fitsAtFirst a1_paintingsOf0 a1_paintingsOf1 a1_ruledOut_ r)) E rfl h rfl rfl dX0_wins_74
    · refine j_iconst C dX0_wins_73 (v := (0 : Int32)) (by decide) ?_
      exact j_zretR C (r := r) (rtf := fun r => (some (.int r.1))) (wff := fun r => (oX0_wins D h_t h_a1 h_t_known h_a1_ruledOut a1_rows a1_columns a1_paints a1_apart a1_paintsOf0 a1_paintsOf1 a1_old a1_shut a1_all a1_firstColumn a1_fitsAtFirst a1_paintingsOf0 a1_paintingsOf1 a1_ruledOut_ r)) E rfl h rfl rfl dX0_wins_74
  have L55 : ∀ (s12 : Int32) (m_t_known__13 : Nat → Int32), fX0_wins_55 F rec a1_paintingsOf0 a1_paintingsOf1 a1_ruledOut_ p2 p3 p4 p5 p6  s12 m_t_known__13 = some r → JJ D X 10 0 0 55 [(2, .int p2), (5, .int p5)] [.int s12] [(h_t, .inr (0, [.ref h_t_known])), (h_t_known, jI D 4096 m_t_known__13), (h_a1, .inr (2, [.int a1_rows, .int a1_columns, .int a1_paints, .int a1_apart, .int a1_paintsOf0, .int a1_paintsOf1, .int a1_old, .int a1_shut, .int a1_all, .int a1_firstColumn, .int a1_fitsAtFirst, .int a1_paintingsOf0, .int a1_paintingsOf1, .ref h_a1_ruledOut])), (h_a1_ruledOut, jI D 27 a1_ruledOut_)] := by
    intro s12 m_t_known__13 h
    unfold fX0_wins_55 at h
    refine j_iload C dX0_wins_55 1 rfl ?_
    refine j_iload_n C dX0_wins_57 rfl 0 rfl ?_
    refine j_icmp_ne C (tgt := 65) dX0_wins_58 (by decide) h (fun c27 h => ?_) (fun c27 h => ?_)
    · refine j_iconst C dX0_wins_61 (v := (1 : Int32)) (by decide) ?_
      refine j_goto C dX0_wins_62 (tgt := 66) (by decide) ?_
      refine j_sub (lv' := []) [] rfl ?_
      exact L66 ((1 : Int32)) s12 m_t_known__13 h
    · refine j_iconst C dX0_wins_65 (v := (0 : Int32)) (by decide) ?_
      refine j_sub (lv' := []) [] rfl ?_
      exact L66 ((0 : Int32)) s12 m_t_known__13 h
  have L29 : ∀ (m_t_known__2 : Nat → Int32), fX0_wins_29 F rec a1_paintingsOf0 a1_paintingsOf1 a1_ruledOut_ p2 p3 p4 p5 p6  m_t_known__2 = some r → JJ D X 10 0 0 29 [(0, .ref h_t), (1, .ref h_a1), (2, .int p2), (3, .int p3), (4, .int p4), (5, .int p5), (6, .int p6)] [] [(h_t, .inr (0, [.ref h_t_known])), (h_t_known, jI D 4096 m_t_known__2), (h_a1, .inr (2, [.int a1_rows, .int a1_columns, .int a1_paints, .int a1_apart, .int a1_paintsOf0, .int a1_paintsOf1, .int a1_old, .int a1_shut, .int a1_all, .int a1_firstColumn, .int a1_fitsAtFirst, .int a1_paintingsOf0, .int a1_paintingsOf1, .ref h_a1_ruledOut])), (h_a1_ruledOut, jI D 27 a1_ruledOut_)] := by
    intro m_t_known__2 h
    unfold fX0_wins_29 at h
    refine j_iload_n C dX0_wins_29 rfl 3 rfl ?_
    refine j_aload_n C dX0_wins_30 rfl 1 rfl ?_
    refine j_iload C dX0_wins_31 5 rfl ?_
    obtain ⟨r7, q8, h⟩ := jl_bind h
    refine j_cV1 C (mX3_paintingsOf (jlaunch X) D h_a1 h_a1_ruledOut a1_rows a1_columns a1_paints a1_apart a1_paintsOf0 a1_paintsOf1 a1_old a1_shut a1_all a1_firstColumn a1_fitsAtFirst a1_paintingsOf0 a1_paintingsOf1 p5 r7 q8) bmX0_35 biX3_paintingsOf bsX3_paintingsOf bzX3 bcX3_paintingsOf rfl hX3_paintingsOf (rest := [.int p3]) rfl (by refine ⟨rfl, rfl, ⟨?_, ?_⟩, ?_, ?_⟩ <;> dsimp only <;> omega) 0 (ci := 2) rfl rfl rfl [2] [0, 1, 3] [0, 1, 3, 2] (wr := [(h_t, .inr (0, [.ref h_t_known])), (h_t_known, jI D 4096 m_t_known__2), (h_a1_ruledOut, jI D 27 a1_ruledOut_)]) (ws2 := [(h_t, .inr (0, [.ref h_t_known])), (h_t_known, jI D 4096 m_t_known__2), (h_a1, .inr (2, [.int a1_rows, .int a1_columns, .int a1_paints, .int a1_apart, .int a1_paintsOf0, .int a1_paintsOf1, .int a1_old, .int a1_shut, .int a1_all, .int a1_firstColumn, .int a1_fitsAtFirst, .int a1_paintingsOf0, .int a1_paintingsOf1, .ref h_a1_ruledOut])), (h_a1_ruledOut, jI D 27 a1_ruledOut_)]) rfl rfl rfl rfl rfl (Nat.le_of_ble_eq_true rfl) dX0_wins_33 ?_
    refine j_iand C dX0_wins_36 ?_
    refine j_if_ne C (tgt := 75) dX0_wins_37 (by decide) h (fun c9 h => ?_) (fun c9 h => ?_)
    · refine j_iload_n C dX0_wins_40 rfl 2 rfl ?_
      refine j_iconst C dX0_wins_41 (v := (2 : Int32)) (by decide) ?_
      refine j_icmp_eq C (tgt := 73) dX0_wins_42 (by decide) h (fun c10 h => ?_) (fun c10 h => ?_)
      · refine j_iconst C dX0_wins_73 (v := (0 : Int32)) (by decide) ?_
        exact j_zretR C (r := r) (rtf := fun r => (some (.int r.1))) (wff := fun r => (oX0_wins D h_t h_a1 h_t_known h_a1_ruledOut a1_rows a1_columns a1_paints a1_apart a1_paintsOf0 a1_paintsOf1 a1_old a1_shut a1_all a1_firstColumn a1_fitsAtFirst a1_paintingsOf0 a1_paintingsOf1 a1_ruledOut_ r)) E rfl h rfl rfl dX0_wins_74
      · refine j_iload C dX0_wins_45 4 rfl ?_
        refine j_if_ne C (tgt := 54) dX0_wins_47 (by decide) h (fun c11 h => ?_) (fun c11 h => ?_)
        · refine j_iconst C dX0_wins_50 (v := (1 : Int32)) (by decide) ?_
          refine j_goto C dX0_wins_51 (tgt := 55) (by decide) ?_
          refine j_sub (lv' := [(2, .int p2), (5, .int p5)]) [2, 5] rfl ?_
          exact L55 ((1 : Int32)) m_t_known__2 h
        · refine j_iconst C dX0_wins_54 (v := (0 : Int32)) (by decide) ?_
          refine j_sub (lv' := [(2, .int p2), (5, .int p5)]) [2, 5] rfl ?_
          exact L55 ((0 : Int32)) m_t_known__2 h
    · refine j_iload_n C dX0_wins_75 rfl 3 rfl ?_
      refine j_iconst C dX0_wins_76 (v := (1 : Int32)) (by decide) ?_
      refine j_ishl C dX0_wins_77 ?_
      refine j_iload C dX0_wins_78 5 rfl ?_
      refine j_ior C dX0_wins_80 ?_
      refine j_iconst C dX0_wins_81 (v := (2 : Int32)) (by decide) ?_
      refine j_ishl C dX0_wins_82 ?_
      refine j_iload_n C dX0_wins_83 rfl 2 rfl ?_
      refine j_ior C dX0_wins_84 ?_
      refine j_istore C dX0_wins_85 (lv' := fun v14 => [(7, .int v14), (0, .ref h_t), (1, .ref h_a1), (2, .int p2), (3, .int p3), (4, .int p4), (5, .int p5), (6, .int p6)]) (by decide) (fun _ => rfl) h (fun v14 h => ?_)
      refine j_aload_n C dX0_wins_87 rfl 1 rfl ?_
      refine j_iload C dX0_wins_88 0 rfl ?_
      obtain ⟨r15, q16, h⟩ := jl_bind h
      refine j_cV1 C (mX0_recall (jlaunch X) D h_t h_t_known m_t_known__2 v14 r15 q16) bmX0_51 biX0_recall bsX0_recall bzX0 bcX0_recall rfl hX0_recall (rest := []) rfl (by refine ⟨rfl, rfl, ⟨?_, ?_⟩, ?_, ?_⟩ <;> dsimp only <;> omega) 0 (ci := 0) rfl rfl rfl [0, 1] [2, 3] [2, 3, 0, 1] (wr := [(h_a1, .inr (2, [.int a1_rows, .int a1_columns, .int a1_paints, .int a1_apart, .int a1_paintsOf0, .int a1_paintsOf1, .int a1_old, .int a1_shut, .int a1_all, .int a1_firstColumn, .int a1_fitsAtFirst, .int a1_paintingsOf0, .int a1_paintingsOf1, .ref h_a1_ruledOut])), (h_a1_ruledOut, jI D 27 a1_ruledOut_)]) (ws2 := [(h_t, .inr (0, [.ref h_t_known])), (h_t_known, jI D 4096 m_t_known__2), (h_a1, .inr (2, [.int a1_rows, .int a1_columns, .int a1_paints, .int a1_apart, .int a1_paintsOf0, .int a1_paintsOf1, .int a1_old, .int a1_shut, .int a1_all, .int a1_firstColumn, .int a1_fitsAtFirst, .int a1_paintingsOf0, .int a1_paintingsOf1, .ref h_a1_ruledOut])), (h_a1_ruledOut, jI D 27 a1_ruledOut_)]) rfl rfl rfl rfl rfl (Nat.le_of_ble_eq_true rfl) dX0_wins_90 ?_
      refine j_istoreC C dX0_wins_93 (lv' := [(8, .int r15), (7, .int v14), (0, .ref h_t), (1, .ref h_a1), (2, .int p2), (3, .int p3), (4, .int p4), (5, .int p5), (6, .int p6)]) (by decide) rfl ?_
      refine j_iload C dX0_wins_95 0 rfl ?_
      refine j_if_eq C (tgt := 112) dX0_wins_97 (by decide) h (fun c17 h => ?_) (fun c17 h => ?_)
      · refine j_aload_n C dX0_wins_112 rfl 2 rfl ?_
        refine j_aload_n C dX0_wins_113 rfl 3 rfl ?_
        refine j_iload_n C dX0_wins_114 rfl 4 rfl ?_
        refine j_iload_n C dX0_wins_115 rfl 5 rfl ?_
        refine j_iload C dX0_wins_116 6 rfl ?_
        refine j_iload C dX0_wins_118 7 rfl ?_
        refine j_iload C dX0_wins_120 8 rfl ?_
        obtain ⟨r18, q19, h⟩ := jl_bind h
        refine j_cV1 C (mX0_hasWinning (jlaunch X) D F rec fr lo hrec h_t h_a1 h_t_known h_a1_ruledOut m_t_known__2 a1_rows a1_columns a1_paints a1_apart a1_paintsOf0 a1_paintsOf1 a1_old a1_shut a1_all a1_firstColumn a1_fitsAtFirst a1_paintingsOf0 a1_paintingsOf1 a1_ruledOut_ p2 p3 p4 p5 p6 r18 q19) bmX0_54 biX0_hasWinning bsX0_hasWinning bzX0 bcX0_hasWinning rfl hX0_hasWinning (rest := []) rfl (by refine ⟨rfl, rfl, ⟨?_, ?_⟩, ?_, ?_⟩ <;> dsimp only <;> omega) 0 (ci := 0) rfl rfl rfl [0, 1, 2, 3] [] [0, 1, 2, 3] (wr := []) (ws2 := [(h_t, .inr (0, [.ref h_t_known])), (h_t_known, jI D 4096 r18.2), (h_a1, .inr (2, [.int a1_rows, .int a1_columns, .int a1_paints, .int a1_apart, .int a1_paintsOf0, .int a1_paintsOf1, .int a1_old, .int a1_shut, .int a1_all, .int a1_firstColumn, .int a1_fitsAtFirst, .int a1_paintingsOf0, .int a1_paintingsOf1, .ref h_a1_ruledOut])), (h_a1_ruledOut, jI D 27 a1_ruledOut_)]) rfl rfl rfl rfl rfl (Nat.le_of_ble_eq_true rfl) dX0_wins_122 ?_
        refine j_istore C dX0_wins_125 (lv' := fun v20 => [(9, .int v20), (8, .int r15), (7, .int v14), (0, .ref h_t), (1, .ref h_a1), (2, .int p2), (3, .int p3), (4, .int p4), (5, .int p5), (6, .int p6)]) (by decide) (fun _ => rfl) h (fun v20 h => ?_)
        refine j_aload_n C dX0_wins_127 rfl 3 rfl ?_
        refine j_iload C dX0_wins_128 2 rfl ?_
        refine j_iload C dX0_wins_130 0 rfl ?_
        refine j_if_eq C (tgt := 139) dX0_wins_132 (by decide) h (fun c21 h => ?_) (fun c21 h => ?_)
        · refine j_iconst C dX0_wins_139 (v := (1 : Int32)) (by decide) ?_
          refine j_sub (lv' := [(9, .int v20)]) [0] rfl ?_
          exact L140 v20 ((1 : Int32)) v14 r18.2 h
        · refine j_iconst C dX0_wins_135 (v := (2 : Int32)) (by decide) ?_
          refine j_goto C dX0_wins_136 (tgt := 140) (by decide) ?_
          refine j_sub (lv' := [(9, .int v20)]) [0] rfl ?_
          exact L140 v20 ((2 : Int32)) v14 r18.2 h
      · refine j_iload C dX0_wins_100 0 rfl ?_
        refine j_iconst C dX0_wins_102 (v := (2 : Int32)) (by decide) ?_
        refine j_icmp_ne C (tgt := 110) dX0_wins_103 (by decide) h (fun c26 h => ?_) (fun c26 h => ?_)
        · refine j_iconst C dX0_wins_106 (v := (1 : Int32)) (by decide) ?_
          refine j_goto C dX0_wins_107 (tgt := 111) (by decide) ?_
          exact j_zretR C (r := r) (rtf := fun r => (some (.int r.1))) (wff := fun r => (oX0_wins D h_t h_a1 h_t_known h_a1_ruledOut a1_rows a1_columns a1_paints a1_apart a1_paintsOf0 a1_paintsOf1 a1_old a1_shut a1_all a1_firstColumn a1_fitsAtFirst a1_paintingsOf0 a1_paintingsOf1 a1_ruledOut_ r)) E rfl h rfl rfl dX0_wins_111
        · refine j_iconst C dX0_wins_110 (v := (0 : Int32)) (by decide) ?_
          exact j_zretR C (r := r) (rtf := fun r => (some (.int r.1))) (wff := fun r => (oX0_wins D h_t h_a1 h_t_known h_a1_ruledOut a1_rows a1_columns a1_paints a1_apart a1_paintsOf0 a1_paintsOf1 a1_old a1_shut a1_all a1_firstColumn a1_fitsAtFirst a1_paintingsOf0 a1_paintingsOf1 a1_ruledOut_ r)) E rfl h rfl rfl dX0_wins_111
  refine j_iload_n C dX0_wins_0 rfl 2 rfl ?_
  refine j_iconst C dX0_wins_1 (v := (2 : Int32)) (by decide) ?_
  refine j_icmp_eq C (tgt := 29) dX0_wins_2 (by decide) h (fun c1 h => ?_) (fun c1 h => ?_)
  · refine j_sub (lv' := [(0, .ref h_t), (1, .ref h_a1), (2, .int p2), (3, .int p3), (4, .int p4), (5, .int p5), (6, .int p6)]) [0, 1, 2, 3, 4, 5, 6] rfl ?_
    exact L29 t_known_ h
  · refine j_iload C dX0_wins_5 4 rfl ?_
    refine j_iload_n C dX0_wins_7 rfl 3 rfl ?_
    obtain ⟨r3, q4, h⟩ := jl_bind h
    refine j_cS1 C (mX3_painted (jlaunch X) D p3 r3 q4) bmX0_48 btX3_painted bzX3 bcX3_painted hX3_painted (rest := [.int p4]) rfl (by refine ⟨rfl, rfl, ⟨?_, ?_⟩, ?_, ?_⟩ <;> dsimp only <;> omega) [] [0, 1, 2, 3] [0, 1, 2, 3] (wr := [(h_t, .inr (0, [.ref h_t_known])), (h_t_known, jI D 4096 t_known_), (h_a1, .inr (2, [.int a1_rows, .int a1_columns, .int a1_paints, .int a1_apart, .int a1_paintsOf0, .int a1_paintsOf1, .int a1_old, .int a1_shut, .int a1_all, .int a1_firstColumn, .int a1_fitsAtFirst, .int a1_paintingsOf0, .int a1_paintingsOf1, .ref h_a1_ruledOut])), (h_a1_ruledOut, jI D 27 a1_ruledOut_)]) (ws2 := [(h_t, .inr (0, [.ref h_t_known])), (h_t_known, jI D 4096 t_known_), (h_a1, .inr (2, [.int a1_rows, .int a1_columns, .int a1_paints, .int a1_apart, .int a1_paintsOf0, .int a1_paintsOf1, .int a1_old, .int a1_shut, .int a1_all, .int a1_firstColumn, .int a1_fitsAtFirst, .int a1_paintingsOf0, .int a1_paintingsOf1, .ref h_a1_ruledOut])), (h_a1_ruledOut, jI D 27 a1_ruledOut_)]) rfl rfl rfl rfl rfl (Nat.le_of_ble_eq_true rfl) dX0_wins_8 ?_
    refine j_iconst C dX0_wins_11 (v := (-1 : Int32)) (by decide) ?_
    refine j_ixor C dX0_wins_12 ?_
    refine j_iand C dX0_wins_13 ?_
    refine j_if_eq C (tgt := 29) dX0_wins_14 (by decide) h (fun c5 h => ?_) (fun c5 h => ?_)
    · refine j_sub (lv' := [(0, .ref h_t), (1, .ref h_a1), (2, .int p2), (3, .int p3), (4, .int p4), (5, .int p5), (6, .int p6)]) [0, 1, 2, 3, 4, 5, 6] rfl ?_
      exact L29 t_known_ h
    · refine j_iload C dX0_wins_17 5 rfl ?_
      refine j_iload_n C dX0_wins_19 rfl 2 rfl ?_
      refine j_icmp_eq C (tgt := 27) dX0_wins_20 (by decide) h (fun c6 h => ?_) (fun c6 h => ?_)
      · refine j_iconst C dX0_wins_27 (v := (0 : Int32)) (by decide) ?_
        exact j_zretR C (r := r) (rtf := fun r => (some (.int r.1))) (wff := fun r => (oX0_wins D h_t h_a1 h_t_known h_a1_ruledOut a1_rows a1_columns a1_paints a1_apart a1_paintsOf0 a1_paintsOf1 a1_old a1_shut a1_all a1_firstColumn a1_fitsAtFirst a1_paintingsOf0 a1_paintingsOf1 a1_ruledOut_ r)) E rfl h rfl rfl dX0_wins_28
      · refine j_iconst C dX0_wins_23 (v := (1 : Int32)) (by decide) ?_
        refine j_goto C dX0_wins_24 (tgt := 28) (by decide) ?_
        exact j_zretR C (r := r) (rtf := fun r => (some (.int r.1))) (wff := fun r => (oX0_wins D h_t h_a1 h_t_known h_a1_ruledOut a1_rows a1_columns a1_paints a1_apart a1_paintsOf0 a1_paintsOf1 a1_old a1_shut a1_all a1_firstColumn a1_fitsAtFirst a1_paintingsOf0 a1_paintingsOf1 a1_ruledOut_ r)) E rfl h rfl rfl dX0_wins_28
set_option maxHeartbeats 4000000 in
theorem mX0_wins (l : Launch) (D : jv_D) (F : Nat) (d : Nat) : ∀ (h_t : Nat) (h_a1 : Nat) (h_t_known : Nat) (h_a1_ruledOut : Nat) (t_known_ : Nat → Int32) (a1_rows : Int32) (a1_columns : Int32) (a1_paints : Int32) (a1_apart : Int32) (a1_paintsOf0 : Int32) (a1_paintsOf1 : Int32) (a1_old : Int32) (a1_shut : Int32) (a1_all : Int32) (a1_firstColumn : Int32) (a1_fitsAtFirst : Int32) (a1_paintingsOf0 : Int32) (a1_paintingsOf1 : Int32) (a1_ruledOut_ : Nat → Int32) (p2 : Int32) (p3 : Int32) (p4 : Int32) (p5 : Int32) (p6 : Int32) (r : Int32 × (Nat → Int32)), fX0_wins F d t_known_ a1_paintingsOf0 a1_paintingsOf1 a1_ruledOut_ p2 p3 p4 p5 p6 = some r → MM l yX0_wins (jW yX0_wins cX0_wins 10 (some .boolean)) ({ frames := 3 * d, cells := 0, slots := 0, locals := 73 * d }) D [.ref h_t, .ref h_a1, .int p2, .int p3, .int p4, .int p5, .int p6] [(h_t, .inr (0, [.ref h_t_known])), (h_t_known, jI D 4096 t_known_), (h_a1, .inr (2, [.int a1_rows, .int a1_columns, .int a1_paints, .int a1_apart, .int a1_paintsOf0, .int a1_paintsOf1, .int a1_old, .int a1_shut, .int a1_all, .int a1_firstColumn, .int a1_fitsAtFirst, .int a1_paintingsOf0, .int a1_paintingsOf1, .ref h_a1_ruledOut])), (h_a1_ruledOut, jI D 27 a1_ruledOut_)] (some (.int r.1)) (oX0_wins D h_t h_a1 h_t_known h_a1_ruledOut a1_rows a1_columns a1_paints a1_apart a1_paintsOf0 a1_paintsOf1 a1_old a1_shut a1_all a1_firstColumn a1_fitsAtFirst a1_paintingsOf0 a1_paintingsOf1 a1_ruledOut_ r) := by
  induction d with
  | zero => intro h_t h_a1 h_t_known h_a1_ruledOut t_known_ a1_rows a1_columns a1_paints a1_apart a1_paintsOf0 a1_paintsOf1 a1_old a1_shut a1_all a1_firstColumn a1_fitsAtFirst a1_paintingsOf0 a1_paintingsOf1 a1_ruledOut_ p2 p3 p4 p5 p6 r h; exact absurd (show (none : Option (Int32 × (Nat → Int32))) = some r from h) (by intro e; cases e)
  | succ d ih => intro h_t h_a1 h_t_known h_a1_ruledOut t_known_ a1_rows a1_columns a1_paints a1_apart a1_paintsOf0 a1_paintsOf1 a1_old a1_shut a1_all a1_firstColumn a1_fitsAtFirst a1_paintingsOf0 a1_paintingsOf1 a1_ruledOut_ p2 p3 p4 p5 p6 r h; exact mgX0_wins l D F (fX0_wins F d) (3 * d) (73 * d) ih h_t h_a1 h_t_known h_a1_ruledOut t_known_ a1_rows a1_columns a1_paints a1_apart a1_paintsOf0 a1_paintsOf1 a1_old a1_shut a1_all a1_firstColumn a1_fitsAtFirst a1_paintingsOf0 a1_paintingsOf1 a1_ruledOut_ p2 p3 p4 p5 p6 r h
theorem dX0_getsHisWill_0 : decode cX0_getsHisWill 0 = .ok (.aload_n 0, 1) := by decide +kernel
theorem dX0_getsHisWill_1 : decode cX0_getsHisWill 1 = .ok (.aload_n 1, 1) := by decide +kernel
theorem dX0_getsHisWill_2 : decode cX0_getsHisWill 2 = .ok (.iload_n 2, 1) := by decide +kernel
theorem dX0_getsHisWill_3 : decode cX0_getsHisWill 3 = .ok (.aload_n 1, 1) := by decide +kernel
theorem dX0_getsHisWill_4 : decode cX0_getsHisWill 4 = .ok (.iload_n 3, 1) := by decide +kernel
theorem dX0_getsHisWill_5 : decode cX0_getsHisWill 5 = .ok (.invokestatic 21, 3) := by decide +kernel
theorem dX0_getsHisWill_8 : decode cX0_getsHisWill 8 = .ok (.aload_n 1, 1) := by decide +kernel
theorem dX0_getsHisWill_9 : decode cX0_getsHisWill 9 = .ok (.iload_n 3, 1) := by decide +kernel
theorem dX0_getsHisWill_10 : decode cX0_getsHisWill 10 = .ok (.invokevirtual 25, 3) := by decide +kernel
theorem dX0_getsHisWill_13 : decode cX0_getsHisWill 13 = .ok (.iload 4, 2) := by decide +kernel
theorem dX0_getsHisWill_15 : decode cX0_getsHisWill 15 = .ok (.iconst 0, 1) := by decide +kernel
theorem dX0_getsHisWill_16 : decode cX0_getsHisWill 16 = .ok (.invokevirtual 31, 3) := by decide +kernel
theorem dX0_getsHisWill_19 : decode cX0_getsHisWill 19 = .ok (.ireturn, 1) := by decide +kernel
def fX0_getsHisWill (F : Nat) (t_known_ : Nat → Int32) (a1_shut : Int32) (a1_all : Int32) (a1_fitsAtFirst : Int32) (a1_paintingsOf0 : Int32) (a1_paintingsOf1 : Int32) (a1_ruledOut_ : Nat → Int32) (p2 : Int32) (p3 : Int32) (p4 : Int32) : Option (Int32 × (Nat → Int32)) :=
((fX0_fittingForSome F a1_fitsAtFirst a1_paintingsOf0 a1_paintingsOf1 a1_ruledOut_ p3).bind fun r1 =>
((fX3_bare a1_shut a1_all p3).bind fun r3 =>
((fX0_wins F 11 t_known_ a1_paintingsOf0 a1_paintingsOf1 a1_ruledOut_ p2 r1 r3 p4 ((0 : Int32))).bind fun r5 =>
(if r5.1 = 0 ∨ r5.1 = 1 then (some (r5.1, r5.2)) else none))))
def oX0_getsHisWill (D : jv_D) (h_t : Nat) (h_a1 : Nat) (h_t_known : Nat) (h_a1_ruledOut : Nat) (a1_rows : Int32) (a1_columns : Int32) (a1_paints : Int32) (a1_apart : Int32) (a1_paintsOf0 : Int32) (a1_paintsOf1 : Int32) (a1_old : Int32) (a1_shut : Int32) (a1_all : Int32) (a1_firstColumn : Int32) (a1_fitsAtFirst : Int32) (a1_paintingsOf0 : Int32) (a1_paintingsOf1 : Int32) (a1_ruledOut_ : Nat → Int32) (r : Int32 × (Nat → Int32)) : va_W := [(h_t, .inr (0, [.ref h_t_known])), (h_t_known, jI D 4096 r.2), (h_a1, .inr (2, [.int a1_rows, .int a1_columns, .int a1_paints, .int a1_apart, .int a1_paintsOf0, .int a1_paintsOf1, .int a1_old, .int a1_shut, .int a1_all, .int a1_firstColumn, .int a1_fitsAtFirst, .int a1_paintingsOf0, .int a1_paintingsOf1, .ref h_a1_ruledOut])), (h_a1_ruledOut, jI D 27 a1_ruledOut_)]
set_option maxHeartbeats 40000000 in
set_option maxRecDepth 100000 in
theorem mX0_getsHisWill (l : Launch) (D : jv_D) (F : Nat) (h_t : Nat) (h_a1 : Nat) (h_t_known : Nat) (h_a1_ruledOut : Nat) (t_known_ : Nat → Int32) (a1_rows : Int32) (a1_columns : Int32) (a1_paints : Int32) (a1_apart : Int32) (a1_paintsOf0 : Int32) (a1_paintsOf1 : Int32) (a1_old : Int32) (a1_shut : Int32) (a1_all : Int32) (a1_firstColumn : Int32) (a1_fitsAtFirst : Int32) (a1_paintingsOf0 : Int32) (a1_paintingsOf1 : Int32) (a1_ruledOut_ : Nat → Int32) (p2 : Int32) (p3 : Int32) (p4 : Int32) (r : Int32 × (Nat → Int32)) (h : fX0_getsHisWill F t_known_ a1_shut a1_all a1_fitsAtFirst a1_paintingsOf0 a1_paintingsOf1 a1_ruledOut_ p2 p3 p4 = some r) : MM l yX0_getsHisWill (jW yX0_getsHisWill cX0_getsHisWill 5 (some .boolean)) ({ frames := 34, cells := 0, slots := 0, locals := 832 }) D [.ref h_t, .ref h_a1, .int p2, .int p3, .int p4] [(h_t, .inr (0, [.ref h_t_known])), (h_t_known, jI D 4096 t_known_), (h_a1, .inr (2, [.int a1_rows, .int a1_columns, .int a1_paints, .int a1_apart, .int a1_paintsOf0, .int a1_paintsOf1, .int a1_old, .int a1_shut, .int a1_all, .int a1_firstColumn, .int a1_fitsAtFirst, .int a1_paintingsOf0, .int a1_paintingsOf1, .ref h_a1_ruledOut])), (h_a1_ruledOut, jI D 27 a1_ruledOut_)] (some (.int r.1)) (oX0_getsHisWill D h_t h_a1 h_t_known h_a1_ruledOut a1_rows a1_columns a1_paints a1_apart a1_paintsOf0 a1_paintsOf1 a1_old a1_shut a1_all a1_firstColumn a1_fitsAtFirst a1_paintingsOf0 a1_paintingsOf1 a1_ruledOut_ r) := by
  refine mn_of hpX0_getsHisWill (Nat.le_of_ble_eq_true rfl) ?_
  intro X hXl C E0 hN
  subst hXl
  replace C : JC D X 5 RX0 cX0_getsHisWill ({ frames := 34, cells := 0, slots := 0, locals := 832 }) := C
  have E : JE D X 0 0 (some .boolean) (fun _ : Unit => (some (.int r.1))) (fun _ : Unit => (oX0_getsHisWill D h_t h_a1 h_t_known h_a1_ruledOut a1_rows a1_columns a1_paints a1_apart a1_paintsOf0 a1_paintsOf1 a1_old a1_shut a1_all a1_firstColumn a1_fitsAtFirst a1_paintingsOf0 a1_paintingsOf1 a1_ruledOut_ r)) := E0 0 0 rfl rfl
  clear E0 hN
  show JJ D X 5 0 0 0 [(0, .ref h_t), (1, .ref h_a1), (2, .int p2), (3, .int p3), (4, .int p4)] [] [(h_t, .inr (0, [.ref h_t_known])), (h_t_known, jI D 4096 t_known_), (h_a1, .inr (2, [.int a1_rows, .int a1_columns, .int a1_paints, .int a1_apart, .int a1_paintsOf0, .int a1_paintsOf1, .int a1_old, .int a1_shut, .int a1_all, .int a1_firstColumn, .int a1_fitsAtFirst, .int a1_paintingsOf0, .int a1_paintingsOf1, .ref h_a1_ruledOut])), (h_a1_ruledOut, jI D 27 a1_ruledOut_)]
  unfold fX0_getsHisWill at h
  refine j_aload_n C dX0_getsHisWill_0 rfl 0 rfl ?_
  refine j_aload_n C dX0_getsHisWill_1 rfl 1 rfl ?_
  refine j_iload_n C dX0_getsHisWill_2 rfl 2 rfl ?_
  refine j_aload_n C dX0_getsHisWill_3 rfl 1 rfl ?_
  refine j_iload_n C dX0_getsHisWill_4 rfl 3 rfl ?_
  obtain ⟨r1, q2, h⟩ := jl_bind h
  refine j_cS1 C (mX0_fittingForSome (jlaunch X) D F h_a1 h_a1_ruledOut a1_rows a1_columns a1_paints a1_apart a1_paintsOf0 a1_paintsOf1 a1_old a1_shut a1_all a1_firstColumn a1_fitsAtFirst a1_paintingsOf0 a1_paintingsOf1 a1_ruledOut_ p3 r1 q2) bmX0_21 btX0_fittingForSome bzX0 bcX0_fittingForSome hX0_fittingForSome (rest := [.int p2, .ref h_a1, .ref h_t]) rfl (jroom_of rfl) [2, 3] [0, 1] [0, 1, 2, 3] (wr := [(h_t, .inr (0, [.ref h_t_known])), (h_t_known, jI D 4096 t_known_)]) (ws2 := [(h_t, .inr (0, [.ref h_t_known])), (h_t_known, jI D 4096 t_known_), (h_a1, .inr (2, [.int a1_rows, .int a1_columns, .int a1_paints, .int a1_apart, .int a1_paintsOf0, .int a1_paintsOf1, .int a1_old, .int a1_shut, .int a1_all, .int a1_firstColumn, .int a1_fitsAtFirst, .int a1_paintingsOf0, .int a1_paintingsOf1, .ref h_a1_ruledOut])), (h_a1_ruledOut, jI D 27 a1_ruledOut_)]) rfl rfl rfl rfl rfl (Nat.le_of_ble_eq_true rfl) dX0_getsHisWill_5 ?_
  refine j_aload_n C dX0_getsHisWill_8 rfl 1 rfl ?_
  refine j_iload_n C dX0_getsHisWill_9 rfl 3 rfl ?_
  obtain ⟨r3, q4, h⟩ := jl_bind h
  refine j_cV1 C (mX3_bare (jlaunch X) D h_a1 h_a1_ruledOut a1_rows a1_columns a1_paints a1_apart a1_paintsOf0 a1_paintsOf1 a1_old a1_shut a1_all a1_firstColumn a1_fitsAtFirst a1_paintingsOf0 a1_paintingsOf1 p3 r3 q4) bmX0_25 biX3_bare bsX3_bare bzX3 bcX3_bare rfl hX3_bare (rest := [.int r1, .int p2, .ref h_a1, .ref h_t]) rfl (jroom_of rfl) 0 (ci := 2) rfl rfl rfl [2] [0, 1, 3] [0, 1, 3, 2] (wr := [(h_t, .inr (0, [.ref h_t_known])), (h_t_known, jI D 4096 t_known_), (h_a1_ruledOut, jI D 27 a1_ruledOut_)]) (ws2 := [(h_t, .inr (0, [.ref h_t_known])), (h_t_known, jI D 4096 t_known_), (h_a1, .inr (2, [.int a1_rows, .int a1_columns, .int a1_paints, .int a1_apart, .int a1_paintsOf0, .int a1_paintsOf1, .int a1_old, .int a1_shut, .int a1_all, .int a1_firstColumn, .int a1_fitsAtFirst, .int a1_paintingsOf0, .int a1_paintingsOf1, .ref h_a1_ruledOut])), (h_a1_ruledOut, jI D 27 a1_ruledOut_)]) rfl rfl rfl rfl rfl (Nat.le_of_ble_eq_true rfl) dX0_getsHisWill_10 ?_
  refine j_iload C dX0_getsHisWill_13 4 rfl ?_
  refine j_iconst C dX0_getsHisWill_15 (v := (0 : Int32)) (by decide) ?_
  obtain ⟨r5, q6, h⟩ := jl_bind h
  refine j_cV1 C (mX0_wins (jlaunch X) D F 11 h_t h_a1 h_t_known h_a1_ruledOut t_known_ a1_rows a1_columns a1_paints a1_apart a1_paintsOf0 a1_paintsOf1 a1_old a1_shut a1_all a1_firstColumn a1_fitsAtFirst a1_paintingsOf0 a1_paintingsOf1 a1_ruledOut_ p2 r1 r3 p4 ((0 : Int32)) r5 q6) bmX0_31 biX0_wins bsX0_wins bzX0 bcX0_wins rfl hX0_wins (rest := []) rfl (jroom_of rfl) 0 (ci := 0) rfl rfl rfl [0, 1, 2, 3] [] [0, 1, 2, 3] (wr := []) (ws2 := [(h_t, .inr (0, [.ref h_t_known])), (h_t_known, jI D 4096 r5.2), (h_a1, .inr (2, [.int a1_rows, .int a1_columns, .int a1_paints, .int a1_apart, .int a1_paintsOf0, .int a1_paintsOf1, .int a1_old, .int a1_shut, .int a1_all, .int a1_firstColumn, .int a1_fitsAtFirst, .int a1_paintingsOf0, .int a1_paintingsOf1, .ref h_a1_ruledOut])), (h_a1_ruledOut, jI D 27 a1_ruledOut_)]) rfl rfl rfl rfl rfl (Nat.le_of_ble_eq_true rfl) dX0_getsHisWill_16 ?_
  refine jl_grd2 h (fun b7 h => ?_)
  exact j_zretR C (r := r) (rtf := fun r => (some (.int r.1))) (wff := fun r => (oX0_getsHisWill D h_t h_a1 h_t_known h_a1_ruledOut a1_rows a1_columns a1_paints a1_apart a1_paintsOf0 a1_paintsOf1 a1_old a1_shut a1_all a1_firstColumn a1_fitsAtFirst a1_paintingsOf0 a1_paintingsOf1 a1_ruledOut_ r)) E (jl_z01 b7) h rfl rfl dX0_getsHisWill_19
theorem dX0_lowestGood_0 : decode cX0_lowestGood 0 = .ok (.aload_n 1, 1) := by decide +kernel
theorem dX0_lowestGood_1 : decode cX0_lowestGood 1 = .ok (.iload_n 3, 1) := by decide +kernel
theorem dX0_lowestGood_2 : decode cX0_lowestGood 2 = .ok (.invokestatic 21, 3) := by decide +kernel
theorem dX0_lowestGood_5 : decode cX0_lowestGood 5 = .ok (.istore 5, 2) := by decide +kernel
theorem dX0_lowestGood_7 : decode cX0_lowestGood 7 = .ok (.aload_n 1, 1) := by decide +kernel
theorem dX0_lowestGood_8 : decode cX0_lowestGood 8 = .ok (.iload_n 3, 1) := by decide +kernel
theorem dX0_lowestGood_9 : decode cX0_lowestGood 9 = .ok (.invokevirtual 25, 3) := by decide +kernel
theorem dX0_lowestGood_12 : decode cX0_lowestGood 12 = .ok (.istore 6, 2) := by decide +kernel
theorem dX0_lowestGood_14 : decode cX0_lowestGood 14 = .ok (.iload 5, 2) := by decide +kernel
theorem dX0_lowestGood_16 : decode cX0_lowestGood 16 = .ok (.aload_n 1, 1) := by decide +kernel
theorem dX0_lowestGood_17 : decode cX0_lowestGood 17 = .ok (.iload 4, 2) := by decide +kernel
theorem dX0_lowestGood_19 : decode cX0_lowestGood 19 = .ok (.invokevirtual 35, 3) := by decide +kernel
theorem dX0_lowestGood_22 : decode cX0_lowestGood 22 = .ok (.iand, 1) := by decide +kernel
theorem dX0_lowestGood_23 : decode cX0_lowestGood 23 = .ok (.istore 7, 2) := by decide +kernel
theorem dX0_lowestGood_25 : decode cX0_lowestGood 25 = .ok (.iconst 0, 1) := by decide +kernel
theorem dX0_lowestGood_26 : decode cX0_lowestGood 26 = .ok (.istore 8, 2) := by decide +kernel
theorem dX0_lowestGood_28 : decode cX0_lowestGood 28 = .ok (.iload 8, 2) := by decide +kernel
theorem dX0_lowestGood_30 : decode cX0_lowestGood 30 = .ok (.bipush 9, 2) := by decide +kernel
theorem dX0_lowestGood_32 : decode cX0_lowestGood 32 = .ok (.if_icmp .ge 81, 3) := by decide +kernel
theorem dX0_lowestGood_35 : decode cX0_lowestGood 35 = .ok (.iconst 1, 1) := by decide +kernel
theorem dX0_lowestGood_36 : decode cX0_lowestGood 36 = .ok (.istore 9, 2) := by decide +kernel
theorem dX0_lowestGood_38 : decode cX0_lowestGood 38 = .ok (.iload 9, 2) := by decide +kernel
theorem dX0_lowestGood_40 : decode cX0_lowestGood 40 = .ok (.iconst 3, 1) := by decide +kernel
theorem dX0_lowestGood_41 : decode cX0_lowestGood 41 = .ok (.if_icmp .gt 66, 3) := by decide +kernel
theorem dX0_lowestGood_44 : decode cX0_lowestGood 44 = .ok (.iload 8, 2) := by decide +kernel
theorem dX0_lowestGood_46 : decode cX0_lowestGood 46 = .ok (.iload 9, 2) := by decide +kernel
theorem dX0_lowestGood_48 : decode cX0_lowestGood 48 = .ok (.invokestatic 38, 3) := by decide +kernel
theorem dX0_lowestGood_51 : decode cX0_lowestGood 51 = .ok (.istore 10, 2) := by decide +kernel
theorem dX0_lowestGood_53 : decode cX0_lowestGood 53 = .ok (.iload 7, 2) := by decide +kernel
theorem dX0_lowestGood_55 : decode cX0_lowestGood 55 = .ok (.iload 10, 2) := by decide +kernel
theorem dX0_lowestGood_57 : decode cX0_lowestGood 57 = .ok (.iand, 1) := by decide +kernel
theorem dX0_lowestGood_58 : decode cX0_lowestGood 58 = .ok (.ifCond .eq 43, 3) := by decide +kernel
theorem dX0_lowestGood_61 : decode cX0_lowestGood 61 = .ok (.aload_n 0, 1) := by decide +kernel
theorem dX0_lowestGood_62 : decode cX0_lowestGood 62 = .ok (.aload_n 1, 1) := by decide +kernel
theorem dX0_lowestGood_63 : decode cX0_lowestGood 63 = .ok (.iload_n 2, 1) := by decide +kernel
theorem dX0_lowestGood_64 : decode cX0_lowestGood 64 = .ok (.aload_n 1, 1) := by decide +kernel
theorem dX0_lowestGood_65 : decode cX0_lowestGood 65 = .ok (.iload 5, 2) := by decide +kernel
theorem dX0_lowestGood_67 : decode cX0_lowestGood 67 = .ok (.iload 10, 2) := by decide +kernel
theorem dX0_lowestGood_69 : decode cX0_lowestGood 69 = .ok (.invokevirtual 42, 3) := by decide +kernel
theorem dX0_lowestGood_72 : decode cX0_lowestGood 72 = .ok (.iload 6, 2) := by decide +kernel
theorem dX0_lowestGood_74 : decode cX0_lowestGood 74 = .ok (.iconst 1, 1) := by decide +kernel
theorem dX0_lowestGood_75 : decode cX0_lowestGood 75 = .ok (.iload 8, 2) := by decide +kernel
theorem dX0_lowestGood_77 : decode cX0_lowestGood 77 = .ok (.ishl, 1) := by decide +kernel
theorem dX0_lowestGood_78 : decode cX0_lowestGood 78 = .ok (.iconst (-1), 1) := by decide +kernel
theorem dX0_lowestGood_79 : decode cX0_lowestGood 79 = .ok (.ixor, 1) := by decide +kernel
theorem dX0_lowestGood_80 : decode cX0_lowestGood 80 = .ok (.iand, 1) := by decide +kernel
theorem dX0_lowestGood_81 : decode cX0_lowestGood 81 = .ok (.iconst 1, 1) := by decide +kernel
theorem dX0_lowestGood_82 : decode cX0_lowestGood 82 = .ok (.iload 4, 2) := by decide +kernel
theorem dX0_lowestGood_84 : decode cX0_lowestGood 84 = .ok (.isub, 1) := by decide +kernel
theorem dX0_lowestGood_85 : decode cX0_lowestGood 85 = .ok (.iconst 1, 1) := by decide +kernel
theorem dX0_lowestGood_86 : decode cX0_lowestGood 86 = .ok (.invokevirtual 31, 3) := by decide +kernel
theorem dX0_lowestGood_89 : decode cX0_lowestGood 89 = .ok (.ifCond .ne 12, 3) := by decide +kernel
theorem dX0_lowestGood_92 : decode cX0_lowestGood 92 = .ok (.bipush 10, 2) := by decide +kernel
theorem dX0_lowestGood_94 : decode cX0_lowestGood 94 = .ok (.iload 8, 2) := by decide +kernel
theorem dX0_lowestGood_96 : decode cX0_lowestGood 96 = .ok (.imul, 1) := by decide +kernel
theorem dX0_lowestGood_97 : decode cX0_lowestGood 97 = .ok (.iload 9, 2) := by decide +kernel
theorem dX0_lowestGood_99 : decode cX0_lowestGood 99 = .ok (.iadd, 1) := by decide +kernel
theorem dX0_lowestGood_100 : decode cX0_lowestGood 100 = .ok (.ireturn, 1) := by decide +kernel
theorem dX0_lowestGood_101 : decode cX0_lowestGood 101 = .ok (.iinc 9 1, 3) := by decide +kernel
theorem dX0_lowestGood_104 : decode cX0_lowestGood 104 = .ok (.goto (-66), 3) := by decide +kernel
theorem dX0_lowestGood_107 : decode cX0_lowestGood 107 = .ok (.iinc 8 1, 3) := by decide +kernel
theorem dX0_lowestGood_110 : decode cX0_lowestGood 110 = .ok (.goto (-82), 3) := by decide +kernel
theorem dX0_lowestGood_113 : decode cX0_lowestGood 113 = .ok (.bipush (-4), 2) := by decide +kernel
theorem dX0_lowestGood_115 : decode cX0_lowestGood 115 = .ok (.ireturn, 1) := by decide +kernel
def bX0_lowestGood_38 (F : Nat) (a1_shut : Int32) (a1_all : Int32) (a1_fitsAtFirst : Int32) (a1_paintingsOf0 : Int32) (a1_paintingsOf1 : Int32) (a1_ruledOut_ : Nat → Int32) (p2 : Int32) (p3 : Int32) (p4 : Int32) (k28 : Int32 → Int32 → Int32 → Int32 → (Nat → Int32) → Option (Int32 × (Nat → Int32))) (k38 : Int32 → Int32 → Int32 → Int32 → Int32 → (Nat → Int32) → Option (Int32 × (Nat → Int32))) (x14 : Int32) (x15 : Int32) (x16 : Int32) (x17 : Int32) (x18 : Int32) (m_t_known__19 : Nat → Int32) : Option (Int32 × (Nat → Int32)) :=
(if ((3 : Int32)) < x18 then
(jl_let (x17 + Int32.ofInt (1)) fun v21 =>
(k28 x14 x15 x16 v21 m_t_known__19))
else
((fX3_painting x17 x18).bind fun r22 =>
(if (x16 &&& r22) = 0 then
(jl_let (x18 + Int32.ofInt (1)) fun v25 =>
(k38 x14 x15 x16 x17 v25 m_t_known__19))
else
((fX3_fittingAfter a1_ruledOut_ x14 r22).bind fun r26 =>
((fX0_wins F 11 m_t_known__19 a1_paintingsOf0 a1_paintingsOf1 a1_ruledOut_ p2 r26 (x15 &&& ((((1 : Int32)) <<< (x17 &&& 31)) ^^^ ((-1 : Int32)))) (((1 : Int32)) - p4) ((1 : Int32))).bind fun r28 =>
(if r28.1 = 0 then
(some ((((10 : Int32)) * x17) + x18, r28.2))
else
(jl_let (x18 + Int32.ofInt (1)) fun v31 =>
(k38 x14 x15 x16 x17 v31 r28.2))))))))
def lX0_lowestGood_38 (F : Nat) (a1_shut : Int32) (a1_all : Int32) (a1_fitsAtFirst : Int32) (a1_paintingsOf0 : Int32) (a1_paintingsOf1 : Int32) (a1_ruledOut_ : Nat → Int32) (p2 : Int32) (p3 : Int32) (p4 : Int32) (k28 : Int32 → Int32 → Int32 → Int32 → (Nat → Int32) → Option (Int32 × (Nat → Int32))) (F2 : Nat) (x14 : Int32) (x15 : Int32) (x16 : Int32) (x17 : Int32) (x18 : Int32) (m_t_known__19 : Nat → Int32) : Option (Int32 × (Nat → Int32)) := jl_loop6 (bX0_lowestGood_38 F a1_shut a1_all a1_fitsAtFirst a1_paintingsOf0 a1_paintingsOf1 a1_ruledOut_ p2 p3 p4 k28) F2 x14 x15 x16 x17 x18 m_t_known__19
def bX0_lowestGood_28 (F : Nat) (a1_shut : Int32) (a1_all : Int32) (a1_fitsAtFirst : Int32) (a1_paintingsOf0 : Int32) (a1_paintingsOf1 : Int32) (a1_ruledOut_ : Nat → Int32) (p2 : Int32) (p3 : Int32) (p4 : Int32)  (k28 : Int32 → Int32 → Int32 → Int32 → (Nat → Int32) → Option (Int32 × (Nat → Int32))) (x8 : Int32) (x9 : Int32) (x10 : Int32) (x11 : Int32) (m_t_known__12 : Nat → Int32) : Option (Int32 × (Nat → Int32)) :=
(if ((9 : Int32)) ≤ x11 then
(some ((-4 : Int32), m_t_known__12))
else
(lX0_lowestGood_38 F a1_shut a1_all a1_fitsAtFirst a1_paintingsOf0 a1_paintingsOf1 a1_ruledOut_ p2 p3 p4 k28 F x8 x9 x10 x11 ((1 : Int32)) m_t_known__12))
def lX0_lowestGood_28 (F : Nat) (a1_shut : Int32) (a1_all : Int32) (a1_fitsAtFirst : Int32) (a1_paintingsOf0 : Int32) (a1_paintingsOf1 : Int32) (a1_ruledOut_ : Nat → Int32) (p2 : Int32) (p3 : Int32) (p4 : Int32)  (F2 : Nat) (x8 : Int32) (x9 : Int32) (x10 : Int32) (x11 : Int32) (m_t_known__12 : Nat → Int32) : Option (Int32 × (Nat → Int32)) := jl_loop5 (bX0_lowestGood_28 F a1_shut a1_all a1_fitsAtFirst a1_paintingsOf0 a1_paintingsOf1 a1_ruledOut_ p2 p3 p4 ) F2 x8 x9 x10 x11 m_t_known__12
def fX0_lowestGood (F : Nat) (t_known_ : Nat → Int32) (a1_shut : Int32) (a1_all : Int32) (a1_fitsAtFirst : Int32) (a1_paintingsOf0 : Int32) (a1_paintingsOf1 : Int32) (a1_ruledOut_ : Nat → Int32) (p2 : Int32) (p3 : Int32) (p4 : Int32) : Option (Int32 × (Nat → Int32)) :=
((fX0_fittingForSome F a1_fitsAtFirst a1_paintingsOf0 a1_paintingsOf1 a1_ruledOut_ p3).bind fun r1 =>
((fX3_bare a1_shut a1_all p3).bind fun r3 =>
((fX3_paintingsOf a1_paintingsOf0 a1_paintingsOf1 p4).bind fun r5 =>
(jl_let (r1 &&& r5) fun v7 =>
(lX0_lowestGood_28 F a1_shut a1_all a1_fitsAtFirst a1_paintingsOf0 a1_paintingsOf1 a1_ruledOut_ p2 p3 p4 F r1 r3 v7 ((0 : Int32)) t_known_)))))
def oX0_lowestGood (D : jv_D) (h_t : Nat) (h_a1 : Nat) (h_t_known : Nat) (h_a1_ruledOut : Nat) (a1_rows : Int32) (a1_columns : Int32) (a1_paints : Int32) (a1_apart : Int32) (a1_paintsOf0 : Int32) (a1_paintsOf1 : Int32) (a1_old : Int32) (a1_shut : Int32) (a1_all : Int32) (a1_firstColumn : Int32) (a1_fitsAtFirst : Int32) (a1_paintingsOf0 : Int32) (a1_paintingsOf1 : Int32) (a1_ruledOut_ : Nat → Int32) (r : Int32 × (Nat → Int32)) : va_W := [(h_t, .inr (0, [.ref h_t_known])), (h_t_known, jI D 4096 r.2), (h_a1, .inr (2, [.int a1_rows, .int a1_columns, .int a1_paints, .int a1_apart, .int a1_paintsOf0, .int a1_paintsOf1, .int a1_old, .int a1_shut, .int a1_all, .int a1_firstColumn, .int a1_fitsAtFirst, .int a1_paintingsOf0, .int a1_paintingsOf1, .ref h_a1_ruledOut])), (h_a1_ruledOut, jI D 27 a1_ruledOut_)]
set_option maxHeartbeats 40000000 in
set_option maxRecDepth 100000 in
theorem mX0_lowestGood (l : Launch) (D : jv_D) (F : Nat) (h_t : Nat) (h_a1 : Nat) (h_t_known : Nat) (h_a1_ruledOut : Nat) (t_known_ : Nat → Int32) (a1_rows : Int32) (a1_columns : Int32) (a1_paints : Int32) (a1_apart : Int32) (a1_paintsOf0 : Int32) (a1_paintsOf1 : Int32) (a1_old : Int32) (a1_shut : Int32) (a1_all : Int32) (a1_firstColumn : Int32) (a1_fitsAtFirst : Int32) (a1_paintingsOf0 : Int32) (a1_paintingsOf1 : Int32) (a1_ruledOut_ : Nat → Int32) (p2 : Int32) (p3 : Int32) (p4 : Int32) (r : Int32 × (Nat → Int32)) (h : fX0_lowestGood F t_known_ a1_shut a1_all a1_fitsAtFirst a1_paintingsOf0 a1_paintingsOf1 a1_ruledOut_ p2 p3 p4 = some r) : MM l yX0_lowestGood (jW yX0_lowestGood cX0_lowestGood 11 (some .int)) ({ frames := 34, cells := 0, slots := 0, locals := 832 }) D [.ref h_t, .ref h_a1, .int p2, .int p3, .int p4] [(h_t, .inr (0, [.ref h_t_known])), (h_t_known, jI D 4096 t_known_), (h_a1, .inr (2, [.int a1_rows, .int a1_columns, .int a1_paints, .int a1_apart, .int a1_paintsOf0, .int a1_paintsOf1, .int a1_old, .int a1_shut, .int a1_all, .int a1_firstColumn, .int a1_fitsAtFirst, .int a1_paintingsOf0, .int a1_paintingsOf1, .ref h_a1_ruledOut])), (h_a1_ruledOut, jI D 27 a1_ruledOut_)] (some (.int r.1)) (oX0_lowestGood D h_t h_a1 h_t_known h_a1_ruledOut a1_rows a1_columns a1_paints a1_apart a1_paintsOf0 a1_paintsOf1 a1_old a1_shut a1_all a1_firstColumn a1_fitsAtFirst a1_paintingsOf0 a1_paintingsOf1 a1_ruledOut_ r) := by
  refine mn_of hpX0_lowestGood (Nat.le_of_ble_eq_true rfl) ?_
  intro X hXl C E0 hN
  subst hXl
  replace C : JC D X 11 RX0 cX0_lowestGood ({ frames := 34, cells := 0, slots := 0, locals := 832 }) := C
  have E : JE D X 0 0 (some .int) (fun _ : Unit => (some (.int r.1))) (fun _ : Unit => (oX0_lowestGood D h_t h_a1 h_t_known h_a1_ruledOut a1_rows a1_columns a1_paints a1_apart a1_paintsOf0 a1_paintsOf1 a1_old a1_shut a1_all a1_firstColumn a1_fitsAtFirst a1_paintingsOf0 a1_paintingsOf1 a1_ruledOut_ r)) := E0 0 0 rfl rfl
  clear E0 hN
  show JJ D X 11 0 0 0 [(0, .ref h_t), (1, .ref h_a1), (2, .int p2), (3, .int p3), (4, .int p4)] [] [(h_t, .inr (0, [.ref h_t_known])), (h_t_known, jI D 4096 t_known_), (h_a1, .inr (2, [.int a1_rows, .int a1_columns, .int a1_paints, .int a1_apart, .int a1_paintsOf0, .int a1_paintsOf1, .int a1_old, .int a1_shut, .int a1_all, .int a1_firstColumn, .int a1_fitsAtFirst, .int a1_paintingsOf0, .int a1_paintingsOf1, .ref h_a1_ruledOut])), (h_a1_ruledOut, jI D 27 a1_ruledOut_)]
  unfold fX0_lowestGood at h
  have L28 : ∀ (x8 : Int32) (x9 : Int32) (x10 : Int32) (x11 : Int32) (m_t_known__12 : Nat → Int32), lX0_lowestGood_28 F a1_shut a1_all a1_fitsAtFirst a1_paintingsOf0 a1_paintingsOf1 a1_ruledOut_ p2 p3 p4  F x8 x9 x10 x11 m_t_known__12 = some r → JJ D X 11 0 0 28 [(0, .ref h_t), (1, .ref h_a1), (2, .int p2), (4, .int p4), (5, .int x8), (6, .int x9), (7, .int x10), (8, .int x11)] [] [(h_t, .inr (0, [.ref h_t_known])), (h_t_known, jI D 4096 m_t_known__12), (h_a1, .inr (2, [.int a1_rows, .int a1_columns, .int a1_paints, .int a1_apart, .int a1_paintsOf0, .int a1_paintsOf1, .int a1_old, .int a1_shut, .int a1_all, .int a1_firstColumn, .int a1_fitsAtFirst, .int a1_paintingsOf0, .int a1_paintingsOf1, .ref h_a1_ruledOut])), (h_a1_ruledOut, jI D 27 a1_ruledOut_)] := by
    intro x8 x9 x10 x11 m_t_known__12 h
    refine jl_ind5 (fun x8 x9 x10 x11 m_t_known__12 => JJ D X 11 0 0 28 [(0, .ref h_t), (1, .ref h_a1), (2, .int p2), (4, .int p4), (5, .int x8), (6, .int x9), (7, .int x10), (8, .int x11)] [] [(h_t, .inr (0, [.ref h_t_known])), (h_t_known, jI D 4096 m_t_known__12), (h_a1, .inr (2, [.int a1_rows, .int a1_columns, .int a1_paints, .int a1_apart, .int a1_paintsOf0, .int a1_paintsOf1, .int a1_old, .int a1_shut, .int a1_all, .int a1_firstColumn, .int a1_fitsAtFirst, .int a1_paintingsOf0, .int a1_paintingsOf1, .ref h_a1_ruledOut])), (h_a1_ruledOut, jI D 27 a1_ruledOut_)]) ?_ F x8 x9 x10 x11 m_t_known__12 h
    clear h x8 x9 x10 x11 m_t_known__12
    intro k28 i28 x8 x9 x10 x11 m_t_known__12 h
    replace i28 : ∀ (x8 : Int32) (x9 : Int32) (x10 : Int32) (x11 : Int32) (m_t_known__12 : Nat → Int32), k28 x8 x9 x10 x11 m_t_known__12 = some r → JJ D X 11 0 0 28 [(0, .ref h_t), (1, .ref h_a1), (2, .int p2), (4, .int p4), (5, .int x8), (6, .int x9), (7, .int x10), (8, .int x11)] [] [(h_t, .inr (0, [.ref h_t_known])), (h_t_known, jI D 4096 m_t_known__12), (h_a1, .inr (2, [.int a1_rows, .int a1_columns, .int a1_paints, .int a1_apart, .int a1_paintsOf0, .int a1_paintsOf1, .int a1_old, .int a1_shut, .int a1_all, .int a1_firstColumn, .int a1_fitsAtFirst, .int a1_paintingsOf0, .int a1_paintingsOf1, .ref h_a1_ruledOut])), (h_a1_ruledOut, jI D 27 a1_ruledOut_)] := i28
    show JJ D X 11 0 0 28 [(0, .ref h_t), (1, .ref h_a1), (2, .int p2), (4, .int p4), (5, .int x8), (6, .int x9), (7, .int x10), (8, .int x11)] [] [(h_t, .inr (0, [.ref h_t_known])), (h_t_known, jI D 4096 m_t_known__12), (h_a1, .inr (2, [.int a1_rows, .int a1_columns, .int a1_paints, .int a1_apart, .int a1_paintsOf0, .int a1_paintsOf1, .int a1_old, .int a1_shut, .int a1_all, .int a1_firstColumn, .int a1_fitsAtFirst, .int a1_paintingsOf0, .int a1_paintingsOf1, .ref h_a1_ruledOut])), (h_a1_ruledOut, jI D 27 a1_ruledOut_)]
    unfold bX0_lowestGood_28 at h
    have L38 : ∀ (x14 : Int32) (x15 : Int32) (x16 : Int32) (x17 : Int32) (x18 : Int32) (m_t_known__19 : Nat → Int32), lX0_lowestGood_38 F a1_shut a1_all a1_fitsAtFirst a1_paintingsOf0 a1_paintingsOf1 a1_ruledOut_ p2 p3 p4 k28 F x14 x15 x16 x17 x18 m_t_known__19 = some r → JJ D X 11 0 0 38 [(0, .ref h_t), (1, .ref h_a1), (2, .int p2), (4, .int p4), (5, .int x14), (6, .int x15), (7, .int x16), (8, .int x17), (9, .int x18)] [] [(h_t, .inr (0, [.ref h_t_known])), (h_t_known, jI D 4096 m_t_known__19), (h_a1, .inr (2, [.int a1_rows, .int a1_columns, .int a1_paints, .int a1_apart, .int a1_paintsOf0, .int a1_paintsOf1, .int a1_old, .int a1_shut, .int a1_all, .int a1_firstColumn, .int a1_fitsAtFirst, .int a1_paintingsOf0, .int a1_paintingsOf1, .ref h_a1_ruledOut])), (h_a1_ruledOut, jI D 27 a1_ruledOut_)] := by
      intro x14 x15 x16 x17 x18 m_t_known__19 h
      refine jl_ind6 (fun x14 x15 x16 x17 x18 m_t_known__19 => JJ D X 11 0 0 38 [(0, .ref h_t), (1, .ref h_a1), (2, .int p2), (4, .int p4), (5, .int x14), (6, .int x15), (7, .int x16), (8, .int x17), (9, .int x18)] [] [(h_t, .inr (0, [.ref h_t_known])), (h_t_known, jI D 4096 m_t_known__19), (h_a1, .inr (2, [.int a1_rows, .int a1_columns, .int a1_paints, .int a1_apart, .int a1_paintsOf0, .int a1_paintsOf1, .int a1_old, .int a1_shut, .int a1_all, .int a1_firstColumn, .int a1_fitsAtFirst, .int a1_paintingsOf0, .int a1_paintingsOf1, .ref h_a1_ruledOut])), (h_a1_ruledOut, jI D 27 a1_ruledOut_)]) ?_ F x14 x15 x16 x17 x18 m_t_known__19 h
      clear h x14 x15 x16 x17 x18 m_t_known__19
      intro k38 i38 x14 x15 x16 x17 x18 m_t_known__19 h
      replace i38 : ∀ (x14 : Int32) (x15 : Int32) (x16 : Int32) (x17 : Int32) (x18 : Int32) (m_t_known__19 : Nat → Int32), k38 x14 x15 x16 x17 x18 m_t_known__19 = some r → JJ D X 11 0 0 38 [(0, .ref h_t), (1, .ref h_a1), (2, .int p2), (4, .int p4), (5, .int x14), (6, .int x15), (7, .int x16), (8, .int x17), (9, .int x18)] [] [(h_t, .inr (0, [.ref h_t_known])), (h_t_known, jI D 4096 m_t_known__19), (h_a1, .inr (2, [.int a1_rows, .int a1_columns, .int a1_paints, .int a1_apart, .int a1_paintsOf0, .int a1_paintsOf1, .int a1_old, .int a1_shut, .int a1_all, .int a1_firstColumn, .int a1_fitsAtFirst, .int a1_paintingsOf0, .int a1_paintingsOf1, .ref h_a1_ruledOut])), (h_a1_ruledOut, jI D 27 a1_ruledOut_)] := i38
      show JJ D X 11 0 0 38 [(0, .ref h_t), (1, .ref h_a1), (2, .int p2), (4, .int p4), (5, .int x14), (6, .int x15), (7, .int x16), (8, .int x17), (9, .int x18)] [] [(h_t, .inr (0, [.ref h_t_known])), (h_t_known, jI D 4096 m_t_known__19), (h_a1, .inr (2, [.int a1_rows, .int a1_columns, .int a1_paints, .int a1_apart, .int a1_paintsOf0, .int a1_paintsOf1, .int a1_old, .int a1_shut, .int a1_all, .int a1_firstColumn, .int a1_fitsAtFirst, .int a1_paintingsOf0, .int a1_paintingsOf1, .ref h_a1_ruledOut])), (h_a1_ruledOut, jI D 27 a1_ruledOut_)]
      unfold bX0_lowestGood_38 at h
      refine j_iload C dX0_lowestGood_38 8 rfl ?_
      refine j_iconst C dX0_lowestGood_40 (v := (3 : Int32)) (by decide) ?_
      refine j_icmp_gt C (tgt := 107) dX0_lowestGood_41 (by decide) h (fun c20 h => ?_) (fun c20 h => ?_)
      · refine j_iinc C dX0_lowestGood_107 7 rfl (lv' := fun v21 => [(8, .int v21), (0, .ref h_t), (1, .ref h_a1), (2, .int p2), (4, .int p4), (5, .int x14), (6, .int x15), (7, .int x16), (9, .int x18)]) (by decide) (fun _ => rfl) h (fun v21 h => ?_)
        refine j_goto C dX0_lowestGood_110 (tgt := 28) (by decide) ?_
        refine j_sub (lv' := [(0, .ref h_t), (1, .ref h_a1), (2, .int p2), (4, .int p4), (5, .int x14), (6, .int x15), (7, .int x16), (8, .int v21)]) [1, 2, 3, 4, 5, 6, 7, 0] rfl ?_
        exact i28 x14 x15 x16 v21 m_t_known__19 h
      · refine j_iload C dX0_lowestGood_44 7 rfl ?_
        refine j_iload C dX0_lowestGood_46 8 rfl ?_
        obtain ⟨r22, q23, h⟩ := jl_bind h
        refine j_cS1 C (mX3_painting (jlaunch X) D x17 x18 r22 q23) bmX0_38 btX3_painting bzX3 bcX3_painting hX3_painting (rest := []) rfl (jroom_of rfl) [] [0, 1, 2, 3] [0, 1, 2, 3] (wr := [(h_t, .inr (0, [.ref h_t_known])), (h_t_known, jI D 4096 m_t_known__19), (h_a1, .inr (2, [.int a1_rows, .int a1_columns, .int a1_paints, .int a1_apart, .int a1_paintsOf0, .int a1_paintsOf1, .int a1_old, .int a1_shut, .int a1_all, .int a1_firstColumn, .int a1_fitsAtFirst, .int a1_paintingsOf0, .int a1_paintingsOf1, .ref h_a1_ruledOut])), (h_a1_ruledOut, jI D 27 a1_ruledOut_)]) (ws2 := [(h_t, .inr (0, [.ref h_t_known])), (h_t_known, jI D 4096 m_t_known__19), (h_a1, .inr (2, [.int a1_rows, .int a1_columns, .int a1_paints, .int a1_apart, .int a1_paintsOf0, .int a1_paintsOf1, .int a1_old, .int a1_shut, .int a1_all, .int a1_firstColumn, .int a1_fitsAtFirst, .int a1_paintingsOf0, .int a1_paintingsOf1, .ref h_a1_ruledOut])), (h_a1_ruledOut, jI D 27 a1_ruledOut_)]) rfl rfl rfl rfl rfl (Nat.le_of_ble_eq_true rfl) dX0_lowestGood_48 ?_
        refine j_istoreC C dX0_lowestGood_51 (lv' := [(10, .int r22), (0, .ref h_t), (1, .ref h_a1), (2, .int p2), (4, .int p4), (5, .int x14), (6, .int x15), (7, .int x16), (8, .int x17), (9, .int x18)]) (by decide) rfl ?_
        refine j_iload C dX0_lowestGood_53 7 rfl ?_
        refine j_iload C dX0_lowestGood_55 0 rfl ?_
        refine j_iand C dX0_lowestGood_57 ?_
        refine j_if_eq C (tgt := 101) dX0_lowestGood_58 (by decide) h (fun c24 h => ?_) (fun c24 h => ?_)
        · refine j_iinc C dX0_lowestGood_101 9 rfl (lv' := fun v25 => [(9, .int v25), (10, .int r22), (0, .ref h_t), (1, .ref h_a1), (2, .int p2), (4, .int p4), (5, .int x14), (6, .int x15), (7, .int x16), (8, .int x17)]) (by decide) (fun _ => rfl) h (fun v25 h => ?_)
          refine j_goto C dX0_lowestGood_104 (tgt := 38) (by decide) ?_
          refine j_sub (lv' := [(0, .ref h_t), (1, .ref h_a1), (2, .int p2), (4, .int p4), (5, .int x14), (6, .int x15), (7, .int x16), (8, .int x17), (9, .int v25)]) [2, 3, 4, 5, 6, 7, 8, 9, 0] rfl ?_
          exact i38 x14 x15 x16 x17 v25 m_t_known__19 h
        · refine j_aload_n C dX0_lowestGood_61 rfl 1 rfl ?_
          refine j_aload_n C dX0_lowestGood_62 rfl 2 rfl ?_
          refine j_iload_n C dX0_lowestGood_63 rfl 3 rfl ?_
          refine j_aload_n C dX0_lowestGood_64 rfl 2 rfl ?_
          refine j_iload C dX0_lowestGood_65 5 rfl ?_
          refine j_iload C dX0_lowestGood_67 0 rfl ?_
          obtain ⟨r26, q27, h⟩ := jl_bind h
          refine j_cV1 C (mX3_fittingAfter (jlaunch X) D h_a1 h_a1_ruledOut a1_rows a1_columns a1_paints a1_apart a1_paintsOf0 a1_paintsOf1 a1_old a1_shut a1_all a1_firstColumn a1_fitsAtFirst a1_paintingsOf0 a1_paintingsOf1 a1_ruledOut_ x14 r22 r26 q27) bmX0_42 biX3_fittingAfter bsX3_fittingAfter bzX3 bcX3_fittingAfter rfl hX3_fittingAfter (rest := [.int p2, .ref h_a1, .ref h_t]) rfl (jroom_of rfl) 0 (ci := 2) rfl rfl rfl [2, 3] [0, 1] [0, 1, 2, 3] (wr := [(h_t, .inr (0, [.ref h_t_known])), (h_t_known, jI D 4096 m_t_known__19)]) (ws2 := [(h_t, .inr (0, [.ref h_t_known])), (h_t_known, jI D 4096 m_t_known__19), (h_a1, .inr (2, [.int a1_rows, .int a1_columns, .int a1_paints, .int a1_apart, .int a1_paintsOf0, .int a1_paintsOf1, .int a1_old, .int a1_shut, .int a1_all, .int a1_firstColumn, .int a1_fitsAtFirst, .int a1_paintingsOf0, .int a1_paintingsOf1, .ref h_a1_ruledOut])), (h_a1_ruledOut, jI D 27 a1_ruledOut_)]) rfl rfl rfl rfl rfl (Nat.le_of_ble_eq_true rfl) dX0_lowestGood_69 ?_
          refine j_iload C dX0_lowestGood_72 6 rfl ?_
          refine j_iconst C dX0_lowestGood_74 (v := (1 : Int32)) (by decide) ?_
          refine j_iload C dX0_lowestGood_75 8 rfl ?_
          refine j_ishl C dX0_lowestGood_77 ?_
          refine j_iconst C dX0_lowestGood_78 (v := (-1 : Int32)) (by decide) ?_
          refine j_ixor C dX0_lowestGood_79 ?_
          refine j_iand C dX0_lowestGood_80 ?_
          refine j_iconst C dX0_lowestGood_81 (v := (1 : Int32)) (by decide) ?_
          refine j_iload C dX0_lowestGood_82 4 rfl ?_
          refine j_isub C dX0_lowestGood_84 ?_
          refine j_iconst C dX0_lowestGood_85 (v := (1 : Int32)) (by decide) ?_
          obtain ⟨r28, q29, h⟩ := jl_bind h
          refine j_cV1 C (mX0_wins (jlaunch X) D F 11 h_t h_a1 h_t_known h_a1_ruledOut m_t_known__19 a1_rows a1_columns a1_paints a1_apart a1_paintsOf0 a1_paintsOf1 a1_old a1_shut a1_all a1_firstColumn a1_fitsAtFirst a1_paintingsOf0 a1_paintingsOf1 a1_ruledOut_ p2 r26 (x15 &&& ((((1 : Int32)) <<< (x17 &&& 31)) ^^^ ((-1 : Int32)))) (((1 : Int32)) - p4) ((1 : Int32)) r28 q29) bmX0_31 biX0_wins bsX0_wins bzX0 bcX0_wins rfl hX0_wins (rest := []) rfl (jroom_of rfl) 0 (ci := 0) rfl rfl rfl [0, 1, 2, 3] [] [0, 1, 2, 3] (wr := []) (ws2 := [(h_t, .inr (0, [.ref h_t_known])), (h_t_known, jI D 4096 r28.2), (h_a1, .inr (2, [.int a1_rows, .int a1_columns, .int a1_paints, .int a1_apart, .int a1_paintsOf0, .int a1_paintsOf1, .int a1_old, .int a1_shut, .int a1_all, .int a1_firstColumn, .int a1_fitsAtFirst, .int a1_paintingsOf0, .int a1_paintingsOf1, .ref h_a1_ruledOut])), (h_a1_ruledOut, jI D 27 a1_ruledOut_)]) rfl rfl rfl rfl rfl (Nat.le_of_ble_eq_true rfl) dX0_lowestGood_86 ?_
          refine j_if_ne C (tgt := 101) dX0_lowestGood_89 (by decide) h (fun c30 h => ?_) (fun c30 h => ?_)
          · refine j_bipush C dX0_lowestGood_92 (v := (10 : Int32)) (by decide) ?_
            refine j_iload C dX0_lowestGood_94 8 rfl ?_
            refine j_imul C dX0_lowestGood_96 ?_
            refine j_iload C dX0_lowestGood_97 9 rfl ?_
            refine j_iadd C dX0_lowestGood_99 ?_
            exact j_iretR C (r := r) (rtf := fun r => (some (.int r.1))) (wff := fun r => (oX0_lowestGood D h_t h_a1 h_t_known h_a1_ruledOut a1_rows a1_columns a1_paints a1_apart a1_paintsOf0 a1_paintsOf1 a1_old a1_shut a1_all a1_firstColumn a1_fitsAtFirst a1_paintingsOf0 a1_paintingsOf1 a1_ruledOut_ r)) E h rfl rfl dX0_lowestGood_100
          · refine j_iinc C dX0_lowestGood_101 9 rfl (lv' := fun v31 => [(9, .int v31), (10, .int r22), (0, .ref h_t), (1, .ref h_a1), (2, .int p2), (4, .int p4), (5, .int x14), (6, .int x15), (7, .int x16), (8, .int x17)]) (by decide) (fun _ => rfl) h (fun v31 h => ?_)
            refine j_goto C dX0_lowestGood_104 (tgt := 38) (by decide) ?_
            refine j_sub (lv' := [(0, .ref h_t), (1, .ref h_a1), (2, .int p2), (4, .int p4), (5, .int x14), (6, .int x15), (7, .int x16), (8, .int x17), (9, .int v31)]) [2, 3, 4, 5, 6, 7, 8, 9, 0] rfl ?_
            exact i38 x14 x15 x16 x17 v31 r28.2 h
    refine j_iload C dX0_lowestGood_28 7 rfl ?_
    refine j_bipush C dX0_lowestGood_30 (v := (9 : Int32)) (by decide) ?_
    refine j_icmp_ge C (tgt := 113) dX0_lowestGood_32 (by decide) h (fun c13 h => ?_) (fun c13 h => ?_)
    · refine j_bipush C dX0_lowestGood_113 (v := (-4 : Int32)) (by decide) ?_
      exact j_iretR C (r := r) (rtf := fun r => (some (.int r.1))) (wff := fun r => (oX0_lowestGood D h_t h_a1 h_t_known h_a1_ruledOut a1_rows a1_columns a1_paints a1_apart a1_paintsOf0 a1_paintsOf1 a1_old a1_shut a1_all a1_firstColumn a1_fitsAtFirst a1_paintingsOf0 a1_paintingsOf1 a1_ruledOut_ r)) E h rfl rfl dX0_lowestGood_115
    · refine j_iconst C dX0_lowestGood_35 (v := (1 : Int32)) (by decide) ?_
      refine j_istoreC C dX0_lowestGood_36 (lv' := [(9, .int ((1 : Int32))), (0, .ref h_t), (1, .ref h_a1), (2, .int p2), (4, .int p4), (5, .int x8), (6, .int x9), (7, .int x10), (8, .int x11)]) (by decide) rfl ?_
      refine j_sub (lv' := [(0, .ref h_t), (1, .ref h_a1), (2, .int p2), (4, .int p4), (5, .int x8), (6, .int x9), (7, .int x10), (8, .int x11), (9, .int ((1 : Int32)))]) [1, 2, 3, 4, 5, 6, 7, 8, 0] rfl ?_
      exact L38 x8 x9 x10 x11 ((1 : Int32)) m_t_known__12 h
  refine j_aload_n C dX0_lowestGood_0 rfl 1 rfl ?_
  refine j_iload_n C dX0_lowestGood_1 rfl 3 rfl ?_
  obtain ⟨r1, q2, h⟩ := jl_bind h
  refine j_cS1 C (mX0_fittingForSome (jlaunch X) D F h_a1 h_a1_ruledOut a1_rows a1_columns a1_paints a1_apart a1_paintsOf0 a1_paintsOf1 a1_old a1_shut a1_all a1_firstColumn a1_fitsAtFirst a1_paintingsOf0 a1_paintingsOf1 a1_ruledOut_ p3 r1 q2) bmX0_21 btX0_fittingForSome bzX0 bcX0_fittingForSome hX0_fittingForSome (rest := []) rfl (jroom_of rfl) [2, 3] [0, 1] [0, 1, 2, 3] (wr := [(h_t, .inr (0, [.ref h_t_known])), (h_t_known, jI D 4096 t_known_)]) (ws2 := [(h_t, .inr (0, [.ref h_t_known])), (h_t_known, jI D 4096 t_known_), (h_a1, .inr (2, [.int a1_rows, .int a1_columns, .int a1_paints, .int a1_apart, .int a1_paintsOf0, .int a1_paintsOf1, .int a1_old, .int a1_shut, .int a1_all, .int a1_firstColumn, .int a1_fitsAtFirst, .int a1_paintingsOf0, .int a1_paintingsOf1, .ref h_a1_ruledOut])), (h_a1_ruledOut, jI D 27 a1_ruledOut_)]) rfl rfl rfl rfl rfl (Nat.le_of_ble_eq_true rfl) dX0_lowestGood_2 ?_
  refine j_istoreC C dX0_lowestGood_5 (lv' := [(5, .int r1), (0, .ref h_t), (1, .ref h_a1), (2, .int p2), (3, .int p3), (4, .int p4)]) (by decide) rfl ?_
  refine j_aload_n C dX0_lowestGood_7 rfl 2 rfl ?_
  refine j_iload_n C dX0_lowestGood_8 rfl 4 rfl ?_
  obtain ⟨r3, q4, h⟩ := jl_bind h
  refine j_cV1 C (mX3_bare (jlaunch X) D h_a1 h_a1_ruledOut a1_rows a1_columns a1_paints a1_apart a1_paintsOf0 a1_paintsOf1 a1_old a1_shut a1_all a1_firstColumn a1_fitsAtFirst a1_paintingsOf0 a1_paintingsOf1 p3 r3 q4) bmX0_25 biX3_bare bsX3_bare bzX3 bcX3_bare rfl hX3_bare (rest := []) rfl (jroom_of rfl) 0 (ci := 2) rfl rfl rfl [2] [0, 1, 3] [0, 1, 3, 2] (wr := [(h_t, .inr (0, [.ref h_t_known])), (h_t_known, jI D 4096 t_known_), (h_a1_ruledOut, jI D 27 a1_ruledOut_)]) (ws2 := [(h_t, .inr (0, [.ref h_t_known])), (h_t_known, jI D 4096 t_known_), (h_a1, .inr (2, [.int a1_rows, .int a1_columns, .int a1_paints, .int a1_apart, .int a1_paintsOf0, .int a1_paintsOf1, .int a1_old, .int a1_shut, .int a1_all, .int a1_firstColumn, .int a1_fitsAtFirst, .int a1_paintingsOf0, .int a1_paintingsOf1, .ref h_a1_ruledOut])), (h_a1_ruledOut, jI D 27 a1_ruledOut_)]) rfl rfl rfl rfl rfl (Nat.le_of_ble_eq_true rfl) dX0_lowestGood_9 ?_
  refine j_istoreC C dX0_lowestGood_12 (lv' := [(6, .int r3), (5, .int r1), (0, .ref h_t), (1, .ref h_a1), (2, .int p2), (3, .int p3), (4, .int p4)]) (by decide) rfl ?_
  refine j_iload C dX0_lowestGood_14 1 rfl ?_
  refine j_aload_n C dX0_lowestGood_16 rfl 3 rfl ?_
  refine j_iload C dX0_lowestGood_17 6 rfl ?_
  obtain ⟨r5, q6, h⟩ := jl_bind h
  refine j_cV1 C (mX3_paintingsOf (jlaunch X) D h_a1 h_a1_ruledOut a1_rows a1_columns a1_paints a1_apart a1_paintsOf0 a1_paintsOf1 a1_old a1_shut a1_all a1_firstColumn a1_fitsAtFirst a1_paintingsOf0 a1_paintingsOf1 p4 r5 q6) bmX0_35 biX3_paintingsOf bsX3_paintingsOf bzX3 bcX3_paintingsOf rfl hX3_paintingsOf (rest := [.int r1]) rfl (jroom_of rfl) 0 (ci := 2) rfl rfl rfl [2] [0, 1, 3] [0, 1, 3, 2] (wr := [(h_t, .inr (0, [.ref h_t_known])), (h_t_known, jI D 4096 t_known_), (h_a1_ruledOut, jI D 27 a1_ruledOut_)]) (ws2 := [(h_t, .inr (0, [.ref h_t_known])), (h_t_known, jI D 4096 t_known_), (h_a1, .inr (2, [.int a1_rows, .int a1_columns, .int a1_paints, .int a1_apart, .int a1_paintsOf0, .int a1_paintsOf1, .int a1_old, .int a1_shut, .int a1_all, .int a1_firstColumn, .int a1_fitsAtFirst, .int a1_paintingsOf0, .int a1_paintingsOf1, .ref h_a1_ruledOut])), (h_a1_ruledOut, jI D 27 a1_ruledOut_)]) rfl rfl rfl rfl rfl (Nat.le_of_ble_eq_true rfl) dX0_lowestGood_19 ?_
  refine j_iand C dX0_lowestGood_22 ?_
  refine j_istore C dX0_lowestGood_23 (lv' := fun v7 => [(7, .int v7), (6, .int r3), (5, .int r1), (0, .ref h_t), (1, .ref h_a1), (2, .int p2), (3, .int p3), (4, .int p4)]) (by decide) (fun _ => rfl) h (fun v7 h => ?_)
  refine j_iconst C dX0_lowestGood_25 (v := (0 : Int32)) (by decide) ?_
  refine j_istoreC C dX0_lowestGood_26 (lv' := [(8, .int ((0 : Int32))), (7, .int v7), (6, .int r3), (5, .int r1), (0, .ref h_t), (1, .ref h_a1), (2, .int p2), (3, .int p3), (4, .int p4)]) (by decide) rfl ?_
  refine j_sub (lv' := [(0, .ref h_t), (1, .ref h_a1), (2, .int p2), (4, .int p4), (5, .int r1), (6, .int r3), (7, .int v7), (8, .int ((0 : Int32)))]) [4, 5, 6, 8, 3, 2, 1, 0] rfl ?_
  exact L28 r1 r3 v7 ((0 : Int32)) t_known_ h
