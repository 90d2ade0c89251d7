theorem dX8_fillings_0 : decode cX8_fillings 0 = .ok (.iload_n 2, 1) := by decide +kernel
theorem dX8_fillings_1 : decode cX8_fillings 1 = .ok (.ifCond .ne 5, 3) := by decide +kernel
theorem dX8_fillings_4 : decode cX8_fillings 4 = .ok (.iconst 1, 1) := by decide +kernel
theorem dX8_fillings_5 : decode cX8_fillings 5 = .ok (.ireturn, 1) := by decide +kernel
theorem dX8_fillings_6 : decode cX8_fillings 6 = .ok (.iload 4, 2) := by decide +kernel
theorem dX8_fillings_8 : decode cX8_fillings 8 = .ok (.bipush 9, 2) := by decide +kernel
theorem dX8_fillings_10 : decode cX8_fillings 10 = .ok (.if_icmp .ge 14, 3) := by decide +kernel
theorem dX8_fillings_13 : decode cX8_fillings 13 = .ok (.iload_n 2, 1) := by decide +kernel
theorem dX8_fillings_14 : decode cX8_fillings 14 = .ok (.iload_n 1, 1) := by decide +kernel
theorem dX8_fillings_15 : decode cX8_fillings 15 = .ok (.invokestatic 24, 3) := by decide +kernel
theorem dX8_fillings_18 : decode cX8_fillings 18 = .ok (.iconst (-1), 1) := by decide +kernel
theorem dX8_fillings_19 : decode cX8_fillings 19 = .ok (.ixor, 1) := by decide +kernel
theorem dX8_fillings_20 : decode cX8_fillings 20 = .ok (.iand, 1) := by decide +kernel
theorem dX8_fillings_21 : decode cX8_fillings 21 = .ok (.ifCond .eq 5, 3) := by decide +kernel
theorem dX8_fillings_24 : decode cX8_fillings 24 = .ok (.iconst 0, 1) := by decide +kernel
theorem dX8_fillings_25 : decode cX8_fillings 25 = .ok (.ireturn, 1) := by decide +kernel
theorem dX8_fillings_26 : decode cX8_fillings 26 = .ok (.iload_n 2, 1) := by decide +kernel
theorem dX8_fillings_27 : decode cX8_fillings 27 = .ok (.iload_n 2, 1) := by decide +kernel
theorem dX8_fillings_28 : decode cX8_fillings 28 = .ok (.ineg, 1) := by decide +kernel
theorem dX8_fillings_29 : decode cX8_fillings 29 = .ok (.iand, 1) := by decide +kernel
theorem dX8_fillings_30 : decode cX8_fillings 30 = .ok (.istore 5, 2) := by decide +kernel
theorem dX8_fillings_32 : decode cX8_fillings 32 = .ok (.iconst 0, 1) := by decide +kernel
theorem dX8_fillings_33 : decode cX8_fillings 33 = .ok (.istore 6, 2) := by decide +kernel
theorem dX8_fillings_35 : decode cX8_fillings 35 = .ok (.iconst 1, 1) := by decide +kernel
theorem dX8_fillings_36 : decode cX8_fillings 36 = .ok (.istore 7, 2) := by decide +kernel
theorem dX8_fillings_38 : decode cX8_fillings 38 = .ok (.iload 7, 2) := by decide +kernel
theorem dX8_fillings_40 : decode cX8_fillings 40 = .ok (.iconst 3, 1) := by decide +kernel
theorem dX8_fillings_41 : decode cX8_fillings 41 = .ok (.if_icmp .gt 64, 3) := by decide +kernel
theorem dX8_fillings_44 : decode cX8_fillings 44 = .ok (.iload 6, 2) := by decide +kernel
theorem dX8_fillings_46 : decode cX8_fillings 46 = .ok (.iload_n 3, 1) := by decide +kernel
theorem dX8_fillings_47 : decode cX8_fillings 47 = .ok (.if_icmp .ge 58, 3) := by decide +kernel
theorem dX8_fillings_50 : decode cX8_fillings 50 = .ok (.iload 5, 2) := by decide +kernel
theorem dX8_fillings_52 : decode cX8_fillings 52 = .ok (.bipush 9, 2) := by decide +kernel
theorem dX8_fillings_54 : decode cX8_fillings 54 = .ok (.iload 7, 2) := by decide +kernel
theorem dX8_fillings_56 : decode cX8_fillings 56 = .ok (.iconst 1, 1) := by decide +kernel
theorem dX8_fillings_57 : decode cX8_fillings 57 = .ok (.isub, 1) := by decide +kernel
theorem dX8_fillings_58 : decode cX8_fillings 58 = .ok (.imul, 1) := by decide +kernel
theorem dX8_fillings_59 : decode cX8_fillings 59 = .ok (.ishl, 1) := by decide +kernel
theorem dX8_fillings_60 : decode cX8_fillings 60 = .ok (.istore 8, 2) := by decide +kernel
theorem dX8_fillings_62 : decode cX8_fillings 62 = .ok (.iload_n 1, 1) := by decide +kernel
theorem dX8_fillings_63 : decode cX8_fillings 63 = .ok (.iload 8, 2) := by decide +kernel
theorem dX8_fillings_65 : decode cX8_fillings 65 = .ok (.iand, 1) := by decide +kernel
theorem dX8_fillings_66 : decode cX8_fillings 66 = .ok (.ifCond .eq 33, 3) := by decide +kernel
theorem dX8_fillings_69 : decode cX8_fillings 69 = .ok (.iload 6, 2) := by decide +kernel
theorem dX8_fillings_71 : decode cX8_fillings 71 = .ok (.aload_n 0, 1) := by decide +kernel
theorem dX8_fillings_72 : decode cX8_fillings 72 = .ok (.aload_n 0, 1) := by decide +kernel
theorem dX8_fillings_73 : decode cX8_fillings 73 = .ok (.iload_n 1, 1) := by decide +kernel
theorem dX8_fillings_74 : decode cX8_fillings 74 = .ok (.iload 8, 2) := by decide +kernel
theorem dX8_fillings_76 : decode cX8_fillings 76 = .ok (.invokevirtual 27, 3) := by decide +kernel
theorem dX8_fillings_79 : decode cX8_fillings 79 = .ok (.iload_n 2, 1) := by decide +kernel
theorem dX8_fillings_80 : decode cX8_fillings 80 = .ok (.iload 5, 2) := by decide +kernel
theorem dX8_fillings_82 : decode cX8_fillings 82 = .ok (.iconst (-1), 1) := by decide +kernel
theorem dX8_fillings_83 : decode cX8_fillings 83 = .ok (.ixor, 1) := by decide +kernel
theorem dX8_fillings_84 : decode cX8_fillings 84 = .ok (.iand, 1) := by decide +kernel
theorem dX8_fillings_85 : decode cX8_fillings 85 = .ok (.iload_n 3, 1) := by decide +kernel
theorem dX8_fillings_86 : decode cX8_fillings 86 = .ok (.iload 6, 2) := by decide +kernel
theorem dX8_fillings_88 : decode cX8_fillings 88 = .ok (.isub, 1) := by decide +kernel
theorem dX8_fillings_89 : decode cX8_fillings 89 = .ok (.iload 4, 2) := by decide +kernel
theorem dX8_fillings_91 : decode cX8_fillings 91 = .ok (.iconst 1, 1) := by decide +kernel
theorem dX8_fillings_92 : decode cX8_fillings 92 = .ok (.iadd, 1) := by decide +kernel
theorem dX8_fillings_93 : decode cX8_fillings 93 = .ok (.invokestatic 20, 3) := by decide +kernel
theorem dX8_fillings_96 : decode cX8_fillings 96 = .ok (.iadd, 1) := by decide +kernel
theorem dX8_fillings_97 : decode cX8_fillings 97 = .ok (.istore 6, 2) := by decide +kernel
theorem dX8_fillings_99 : decode cX8_fillings 99 = .ok (.iinc 7 1, 3) := by decide +kernel
theorem dX8_fillings_102 : decode cX8_fillings 102 = .ok (.goto (-64), 3) := by decide +kernel
theorem dX8_fillings_105 : decode cX8_fillings 105 = .ok (.iload 6, 2) := by decide +kernel
theorem dX8_fillings_107 : decode cX8_fillings 107 = .ok (.ireturn, 1) := by decide +kernel
def bX8_fillings_38 (F : Nat) (rec : (Nat → Int32) → Int32 → Int32 → Int32 → Int32 → Option (Int32)) (a0_ruledOut_ : Nat → Int32) (p1 : Int32) (p2 : Int32) (p3 : Int32) (p4 : Int32)  (k38 : Int32 → Int32 → Int32 → Option (Int32)) (x7 : Int32) (x8 : Int32) (x9 : Int32) : Option (Int32) :=
(if ((3 : Int32)) < x9 then
(some (x8))
else
(if p3 ≤ x8 then
(some (x8))
else
(jl_let (x7 <<< ((((9 : Int32)) * (x9 - ((1 : Int32)))) &&& 31)) fun v12 =>
(if (p1 &&& v12) = 0 then
(jl_let (x9 + Int32.ofInt (1)) fun v14 =>
(k38 x7 x8 v14))
else
((fX3_fittingAfter a0_ruledOut_ p1 v12).bind fun r15 =>
((rec a0_ruledOut_ r15 (p2 &&& (x7 ^^^ ((-1 : Int32)))) (p3 - x8) (p4 + ((1 : Int32)))).bind fun r17 =>
(jl_let (x8 + r17) fun v19 =>
(jl_let (x9 + Int32.ofInt (1)) fun v20 =>
(k38 x7 v19 v20)))))))))
def lX8_fillings_38 (F : Nat) (rec : (Nat → Int32) → Int32 → Int32 → Int32 → Int32 → Option (Int32)) (a0_ruledOut_ : Nat → Int32) (p1 : Int32) (p2 : Int32) (p3 : Int32) (p4 : Int32)  (F2 : Nat) (x7 : Int32) (x8 : Int32) (x9 : Int32) : Option (Int32) := jl_loop3 (bX8_fillings_38 F rec a0_ruledOut_ p1 p2 p3 p4 ) F2 x7 x8 x9
def gX8_fillings (F : Nat) (rec : (Nat → Int32) → Int32 → Int32 → Int32 → Int32 → Option (Int32)) (a0_ruledOut_ : Nat → Int32) (p1 : Int32) (p2 : Int32) (p3 : Int32) (p4 : Int32) : Option (Int32) :=
(if p2 = 0 then
(some ((1 : Int32)))
else
(if ((9 : Int32)) ≤ p4 then
(some ((0 : Int32)))
else
((fX3_painted p1).bind fun r3 =>
(if (p2 &&& (r3 ^^^ ((-1 : Int32)))) = 0 then
(jl_let (p2 &&& (-p2)) fun v6 =>
(lX8_fillings_38 F rec a0_ruledOut_ p1 p2 p3 p4 F v6 ((0 : Int32)) ((1 : Int32))))
else
(some ((0 : Int32)))))))
def fX8_fillings (F : Nat) (d : Nat) (a0_ruledOut_ : Nat → Int32) (p1 : Int32) (p2 : Int32) (p3 : Int32) (p4 : Int32) : Option (Int32) := jl_loop5 (fun rec => gX8_fillings F rec) d a0_ruledOut_ p1 p2 p3 p4
def oX8_fillings (D : jv_D) (h_a0 : Nat) (h_a0_ruledOut : Nat) (a0_rows : Int32) (a0_columns : Int32) (a0_paints : Int32) (a0_apart : Int32) (a0_paintsOf0 : Int32) (a0_paintsOf1 : Int32) (a0_old : Int32) (a0_shut : Int32) (a0_all : Int32) (a0_firstColumn : Int32) (a0_fitsAtFirst : Int32) (a0_paintingsOf0 : Int32) (a0_paintingsOf1 : Int32) (a0_ruledOut_ : Nat → Int32) (r : Int32) : va_W := [(h_a0, .inr (2, [.int a0_rows, .int a0_columns, .int a0_paints, .int a0_apart, .int a0_paintsOf0, .int a0_paintsOf1, .int a0_old, .int a0_shut, .int a0_all, .int a0_firstColumn, .int a0_fitsAtFirst, .int a0_paintingsOf0, .int a0_paintingsOf1, .ref h_a0_ruledOut])), (h_a0_ruledOut, jI D 27 a0_ruledOut_)]
set_option maxHeartbeats 40000000 in
set_option maxRecDepth 100000 in
theorem mgX8_fillings (l : Launch) (D : jv_D) (F : Nat) (rec : (Nat → Int32) → Int32 → Int32 → Int32 → Int32 → Option (Int32)) (fr lo : Nat) (hrec : ∀ (h_a0 : Nat) (h_a0_ruledOut : Nat) (a0_rows : Int32) (a0_columns : Int32) (a0_paints : Int32) (a0_apart : Int32) (a0_paintsOf0 : Int32) (a0_paintsOf1 : Int32) (a0_old : Int32) (a0_shut : Int32) (a0_all : Int32) (a0_firstColumn : Int32) (a0_fitsAtFirst : Int32) (a0_paintingsOf0 : Int32) (a0_paintingsOf1 : Int32) (a0_ruledOut_ : Nat → Int32) (p1 : Int32) (p2 : Int32) (p3 : Int32) (p4 : Int32) (r : Int32), rec a0_ruledOut_ p1 p2 p3 p4 = some r → MM l yX8_fillings (jW yX8_fillings cX8_fillings 9 (some .int)) ({ frames := fr, cells := 0, slots := 0, locals := lo }) D [.ref h_a0, .int p1, .int p2, .int p3, .int p4] [(h_a0, .inr (2, [.int a0_rows, .int a0_columns, .int a0_paints, .int a0_apart, .int a0_paintsOf0, .int a0_paintsOf1, .int a0_old, .int a0_shut, .int a0_all, .int a0_firstColumn, .int a0_fitsAtFirst, .int a0_paintingsOf0, .int a0_paintingsOf1, .ref h_a0_ruledOut])), (h_a0_ruledOut, jI D 27 a0_ruledOut_)] (some (.int r)) (oX8_fillings D h_a0 h_a0_ruledOut a0_rows a0_columns a0_paints a0_apart a0_paintsOf0 a0_paintsOf1 a0_old a0_shut a0_all a0_firstColumn a0_fitsAtFirst a0_paintingsOf0 a0_paintingsOf1 a0_ruledOut_ r)) (h_a0 : Nat) (h_a0_ruledOut : Nat) (a0_rows : Int32) (a0_columns : Int32) (a0_paints : Int32) (a0_apart : Int32) (a0_paintsOf0 : Int32) (a0_paintsOf1 : Int32) (a0_old : Int32) (a0_shut : Int32) (a0_all : Int32) (a0_firstColumn : Int32) (a0_fitsAtFirst : Int32) (a0_paintingsOf0 : Int32) (a0_paintingsOf1 : Int32) (a0_ruledOut_ : Nat → Int32) (p1 : Int32) (p2 : Int32) (p3 : Int32) (p4 : Int32) (r : Int32) (h : gX8_fillings F rec a0_ruledOut_ p1 p2 p3 p4 = some r) : MM l yX8_fillings (jW yX8_fillings cX8_fillings 9 (some .int)) ({ frames := fr + 2, cells := 0, slots := 0, locals := lo + 43 }) D [.ref h_a0, .int p1, .int p2, .int p3, .int p4] [(h_a0, .inr (2, [.int a0_rows, .int a0_columns, .int a0_paints, .int a0_apart, .int a0_paintsOf0, .int a0_paintsOf1, .int a0_old, .int a0_shut, .int a0_all, .int a0_firstColumn, .int a0_fitsAtFirst, .int a0_paintingsOf0, .int a0_paintingsOf1, .ref h_a0_ruledOut])), (h_a0_ruledOut, jI D 27 a0_ruledOut_)] (some (.int r)) (oX8_fillings D h_a0 h_a0_ruledOut a0_rows a0_columns a0_paints a0_apart a0_paintsOf0 a0_paintsOf1 a0_old a0_shut a0_all a0_firstColumn a0_fitsAtFirst a0_paintingsOf0 a0_paintingsOf1 a0_ruledOut_ r) := by
  refine mn_of hpX8_fillings (Nat.le_of_ble_eq_true rfl) ?_
  intro X hXl C E0 hN
  subst hXl
  replace C : JC D X 9 RX8 cX8_fillings ({ frames := fr + 2, cells := 0, slots := 0, locals := lo + 43 }) := C
  have E : JE D X 0 0 (some .int) (fun _ : Unit => (some (.int r))) (fun _ : Unit => (oX8_fillings D h_a0 h_a0_ruledOut a0_rows a0_columns a0_paints a0_apart a0_paintsOf0 a0_paintsOf1 a0_old a0_shut a0_all a0_firstColumn a0_fitsAtFirst a0_paintingsOf0 a0_paintingsOf1 a0_ruledOut_ r)) := E0 0 0 rfl rfl
  clear E0 hN
  show JJ D X 9 0 0 0 [(0, .ref h_a0), (1, .int p1), (2, .int p2), (3, .int p3), (4, .int p4)] [] [(h_a0, .inr (2, [.int a0_rows, .int a0_columns, .int a0_paints, .int a0_apart, .int a0_paintsOf0, .int a0_paintsOf1, .int a0_old, .int a0_shut, .int a0_all, .int a0_firstColumn, .int a0_fitsAtFirst, .int a0_paintingsOf0, .int a0_paintingsOf1, .ref h_a0_ruledOut])), (h_a0_ruledOut, jI D 27 a0_ruledOut_)]
  unfold gX8_fillings at h
  have L38 : ∀ (x7 : Int32) (x8 : Int32) (x9 : Int32), lX8_fillings_38 F rec a0_ruledOut_ p1 p2 p3 p4  F x7 x8 x9 = some r → JJ D X 9 0 0 38 [(0, .ref h_a0), (1, .int p1), (2, .int p2), (3, .int p3), (4, .int p4), (5, .int x7), (6, .int x8), (7, .int x9)] [] [(h_a0, .inr (2, [.int a0_rows, .int a0_columns, .int a0_paints, .int a0_apart, .int a0_paintsOf0, .int a0_paintsOf1, .int a0_old, .int a0_shut, .int a0_all, .int a0_firstColumn, .int a0_fitsAtFirst, .int a0_paintingsOf0, .int a0_paintingsOf1, .ref h_a0_ruledOut])), (h_a0_ruledOut, jI D 27 a0_ruledOut_)] := by
    intro x7 x8 x9 h
    refine jl_ind3 (fun x7 x8 x9 => JJ D X 9 0 0 38 [(0, .ref h_a0), (1, .int p1), (2, .int p2), (3, .int p3), (4, .int p4), (5, .int x7), (6, .int x8), (7, .int x9)] [] [(h_a0, .inr (2, [.int a0_rows, .int a0_columns, .int a0_paints, .int a0_apart, .int a0_paintsOf0, .int a0_paintsOf1, .int a0_old, .int a0_shut, .int a0_all, .int a0_firstColumn, .int a0_fitsAtFirst, .int a0_paintingsOf0, .int a0_paintingsOf1, .ref h_a0_ruledOut])), (h_a0_ruledOut, jI D 27 a0_ruledOut_)]) ?_ F x7 x8 x9 h
    clear h x7 x8 x9
    intro k38 i38 x7 x8 x9 h
    replace i38 : ∀ (x7 : Int32) (x8 : Int32) (x9 : Int32), k38 x7 x8 x9 = some r → JJ D X 9 0 0 38 [(0, .ref h_a0), (1, .int p1), (2, .int p2), (3, .int p3), (4, .int p4), (5, .int x7), (6, .int x8), (7, .int x9)] [] [(h_a0, .inr (2, [.int a0_rows, .int a0_columns, .int a0_paints, .int a0_apart, .int a0_paintsOf0, .int a0_paintsOf1, .int a0_old, .int a0_shut, .int a0_all, .int a0_firstColumn, .int a0_fitsAtFirst, .int a0_paintingsOf0, .int a0_paintingsOf1, .ref h_a0_ruledOut])), (h_a0_ruledOut, jI D 27 a0_ruledOut_)] := i38
    show JJ D X 9 0 0 38 [(0, .ref h_a0), (1, .int p1), (2, .int p2), (3, .int p3), (4, .int p4), (5, .int x7), (6, .int x8), (7, .int x9)] [] [(h_a0, .inr (2, [.int a0_rows, .int a0_columns, .int a0_paints, .int a0_apart, .int a0_paintsOf0, .int a0_paintsOf1, .int a0_old, .int a0_shut, .int a0_all, .int a0_firstColumn, .int a0_fitsAtFirst, .int a0_paintingsOf0, .int a0_paintingsOf1, .ref h_a0_ruledOut])), (h_a0_ruledOut, jI D 27 a0_ruledOut_)]
    unfold bX8_fillings_38 at h
    refine j_iload C dX8_fillings_38 7 rfl ?_
    refine j_iconst C dX8_fillings_40 (v := (3 : Int32)) (by decide) ?_
    refine j_icmp_gt C (tgt := 105) dX8_fillings_41 (by decide) h (fun c10 h => ?_) (fun c10 h => ?_)
    · refine j_iload C dX8_fillings_105 6 rfl ?_
      exact j_iretR C (r := r) (rtf := fun r => (some (.int r))) (wff := fun r => (oX8_fillings D h_a0 h_a0_ruledOut a0_rows a0_columns a0_paints a0_apart a0_paintsOf0 a0_paintsOf1 a0_old a0_shut a0_all a0_firstColumn a0_fitsAtFirst a0_paintingsOf0 a0_paintingsOf1 a0_ruledOut_ r)) E h rfl rfl dX8_fillings_107
    · refine j_iload C dX8_fillings_44 6 rfl ?_
      refine j_iload_n C dX8_fillings_46 rfl 3 rfl ?_
      refine j_icmp_ge C (tgt := 105) dX8_fillings_47 (by decide) h (fun c11 h => ?_) (fun c11 h => ?_)
      · refine j_iload C dX8_fillings_105 6 rfl ?_
        exact j_iretR C (r := r) (rtf := fun r => (some (.int r))) (wff := fun r => (oX8_fillings D h_a0 h_a0_ruledOut a0_rows a0_columns a0_paints a0_apart a0_paintsOf0 a0_paintsOf1 a0_old a0_shut a0_all a0_firstColumn a0_fitsAtFirst a0_paintingsOf0 a0_paintingsOf1 a0_ruledOut_ r)) E h rfl rfl dX8_fillings_107
      · refine j_iload C dX8_fillings_50 5 rfl ?_
        refine j_bipush C dX8_fillings_52 (v := (9 : Int32)) (by decide) ?_
        refine j_iload C dX8_fillings_54 7 rfl ?_
        refine j_iconst C dX8_fillings_56 (v := (1 : Int32)) (by decide) ?_
        refine j_isub C dX8_fillings_57 ?_
        refine j_imul C dX8_fillings_58 ?_
        refine j_ishl C dX8_fillings_59 ?_
        refine j_istore C dX8_fillings_60 (lv' := fun v12 => [(8, .int v12), (0, .ref h_a0), (1, .int p1), (2, .int p2), (3, .int p3), (4, .int p4), (5, .int x7), (6, .int x8), (7, .int x9)]) (by decide) (fun _ => rfl) h (fun v12 h => ?_)
        refine j_iload_n C dX8_fillings_62 rfl 2 rfl ?_
        refine j_iload C dX8_fillings_63 0 rfl ?_
        refine j_iand C dX8_fillings_65 ?_
        refine j_if_eq C (tgt := 99) dX8_fillings_66 (by decide) h (fun c13 h => ?_) (fun c13 h => ?_)
        · refine j_iinc C dX8_fillings_99 8 rfl (lv' := fun v14 => [(7, .int v14), (8, .int v12), (0, .ref h_a0), (1, .int p1), (2, .int p2), (3, .int p3), (4, .int p4), (5, .int x7), (6, .int x8)]) (by decide) (fun _ => rfl) h (fun v14 h => ?_)
          refine j_goto C dX8_fillings_102 (tgt := 38) (by decide) ?_
          refine j_sub (lv' := [(0, .ref h_a0), (1, .int p1), (2, .int p2), (3, .int p3), (4, .int p4), (5, .int x7), (6, .int x8), (7, .int v14)]) [2, 3, 4, 5, 6, 7, 8, 0] rfl ?_
          exact i38 x7 x8 v14 h
        · refine j_iload C dX8_fillings_69 7 rfl ?_
          refine j_aload_n C dX8_fillings_71 rfl 1 rfl ?_
          refine j_aload_n C dX8_fillings_72 rfl 1 rfl ?_
          refine j_iload_n C dX8_fillings_73 rfl 2 rfl ?_
          refine j_iload C dX8_fillings_74 0 rfl ?_
          obtain ⟨r15, q16, h⟩ := jl_bind h
          refine j_cV1 C (mX3_fittingAfter (jlaunch X) D h_a0 h_a0_ruledOut a0_rows a0_columns a0_paints a0_apart a0_paintsOf0 a0_paintsOf1 a0_old a0_shut a0_all a0_firstColumn a0_fitsAtFirst a0_paintingsOf0 a0_paintingsOf1 a0_ruledOut_ p1 v12 r15 q16) bmX8_27 biX3_fittingAfter bsX3_fittingAfter bzX3 bcX3_fittingAfter rfl hX3_fittingAfter (rest := [.ref h_a0, .int x8]) rfl (by refine ⟨rfl, rfl, ⟨?_, ?_⟩, ?_, ?_⟩ <;> dsimp only <;> omega) 0 (ci := 2) rfl rfl rfl [0, 1] [] [0, 1] (wr := []) (ws2 := [(h_a0, .inr (2, [.int a0_rows, .int a0_columns, .int a0_paints, .int a0_apart, .int a0_paintsOf0, .int a0_paintsOf1, .int a0_old, .int a0_shut, .int a0_all, .int a0_firstColumn, .int a0_fitsAtFirst, .int a0_paintingsOf0, .int a0_paintingsOf1, .ref h_a0_ruledOut])), (h_a0_ruledOut, jI D 27 a0_ruledOut_)]) rfl rfl rfl rfl rfl (Nat.le_of_ble_eq_true rfl) dX8_fillings_76 ?_
          refine j_iload_n C dX8_fillings_79 rfl 3 rfl ?_
          refine j_iload C dX8_fillings_80 6 rfl ?_
          refine j_iconst C dX8_fillings_82 (v := (-1 : Int32)) (by decide) ?_
          refine j_ixor C dX8_fillings_83 ?_
          refine j_iand C dX8_fillings_84 ?_
          refine j_iload_n C dX8_fillings_85 rfl 4 rfl ?_
          refine j_iload C dX8_fillings_86 7 rfl ?_
          refine j_isub C dX8_fillings_88 ?_
          refine j_iload C dX8_fillings_89 5 rfl ?_
          refine j_iconst C dX8_fillings_91 (v := (1 : Int32)) (by decide) ?_
          refine j_iadd C dX8_fillings_92 ?_
          obtain ⟨r17, q18, h⟩ := jl_bind h
          refine j_cS1 C (hrec h_a0 h_a0_ruledOut a0_rows a0_columns a0_paints a0_apart a0_paintsOf0 a0_paintsOf1 a0_old a0_shut a0_all a0_firstColumn a0_fitsAtFirst a0_paintingsOf0 a0_paintingsOf1 a0_ruledOut_ r15 (p2 &&& (x7 ^^^ ((-1 : Int32)))) (p3 - x8) (p4 + ((1 : Int32))) r17 q18) bmX8_20 btX8_fillings bzX8 bcX8_fillings hX8_fillings (rest := [.int x8]) rfl (by refine ⟨rfl, rfl, ⟨?_, ?_⟩, ?_, ?_⟩ <;> dsimp only <;> omega) [0, 1] [] [0, 1] (wr := []) (ws2 := [(h_a0, .inr (2, [.int a0_rows, .int a0_columns, .int a0_paints, .int a0_apart, .int a0_paintsOf0, .int a0_paintsOf1, .int a0_old, .int a0_shut, .int a0_all, .int a0_firstColumn, .int a0_fitsAtFirst, .int a0_paintingsOf0, .int a0_paintingsOf1, .ref h_a0_ruledOut])), (h_a0_ruledOut, jI D 27 a0_ruledOut_)]) rfl rfl rfl rfl rfl (Nat.le_of_ble_eq_true rfl) dX8_fillings_93 ?_
          refine j_iadd C dX8_fillings_96 ?_
          refine j_istore C dX8_fillings_97 (lv' := fun v19 => [(6, .int v19), (8, .int v12), (0, .ref h_a0), (1, .int p1), (2, .int p2), (3, .int p3), (4, .int p4), (5, .int x7), (7, .int x9)]) (by decide) (fun _ => rfl) h (fun v19 h => ?_)
          refine j_iinc C dX8_fillings_99 8 rfl (lv' := fun v20 => [(7, .int v20), (6, .int v19), (8, .int v12), (0, .ref h_a0), (1, .int p1), (2, .int p2), (3, .int p3), (4, .int p4), (5, .int x7)]) (by decide) (fun _ => rfl) h (fun v20 h => ?_)
          refine j_goto C dX8_fillings_102 (tgt := 38) (by decide) ?_
          refine j_sub (lv' := [(0, .ref h_a0), (1, .int p1), (2, .int p2), (3, .int p3), (4, .int p4), (5, .int x7), (6, .int v19), (7, .int v20)]) [3, 4, 5, 6, 7, 8, 1, 0] rfl ?_
          exact i38 x7 v19 v20 h
  refine j_iload_n C dX8_fillings_0 rfl 2 rfl ?_
  refine j_if_ne C (tgt := 6) dX8_fillings_1 (by decide) h (fun c1 h => ?_) (fun c1 h => ?_)
  · refine j_iconst C dX8_fillings_4 (v := (1 : Int32)) (by decide) ?_
    exact j_iretR C (r := r) (rtf := fun r => (some (.int r))) (wff := fun r => (oX8_fillings D h_a0 h_a0_ruledOut a0_rows a0_columns a0_paints a0_apart a0_paintsOf0 a0_paintsOf1 a0_old a0_shut a0_all a0_firstColumn a0_fitsAtFirst a0_paintingsOf0 a0_paintingsOf1 a0_ruledOut_ r)) E h rfl rfl dX8_fillings_5
  · refine j_iload C dX8_fillings_6 4 rfl ?_
    refine j_bipush C dX8_fillings_8 (v := (9 : Int32)) (by decide) ?_
    refine j_icmp_ge C (tgt := 24) dX8_fillings_10 (by decide) h (fun c2 h => ?_) (fun c2 h => ?_)
    · refine j_iconst C dX8_fillings_24 (v := (0 : Int32)) (by decide) ?_
      exact j_iretR C (r := r) (rtf := fun r => (some (.int r))) (wff := fun r => (oX8_fillings D h_a0 h_a0_ruledOut a0_rows a0_columns a0_paints a0_apart a0_paintsOf0 a0_paintsOf1 a0_old a0_shut a0_all a0_firstColumn a0_fitsAtFirst a0_paintingsOf0 a0_paintingsOf1 a0_ruledOut_ r)) E h rfl rfl dX8_fillings_25
    · refine j_iload_n C dX8_fillings_13 rfl 2 rfl ?_
      refine j_iload_n C dX8_fillings_14 rfl 1 rfl ?_
      obtain ⟨r3, q4, h⟩ := jl_bind h
      refine j_cS1 C (mX3_painted (jlaunch X) D p1 r3 q4) bmX8_24 btX3_painted bzX3 bcX3_painted hX3_painted (rest := [.int p2]) rfl (by refine ⟨rfl, rfl, ⟨?_, ?_⟩, ?_, ?_⟩ <;> dsimp only <;> omega) [] [0, 1] [0, 1] (wr := [(h_a0, .inr (2, [.int a0_rows, .int a0_columns, .int a0_paints, .int a0_apart, .int a0_paintsOf0, .int a0_paintsOf1, .int a0_old, .int a0_shut, .int a0_all, .int a0_firstColumn, .int a0_fitsAtFirst, .int a0_paintingsOf0, .int a0_paintingsOf1, .ref h_a0_ruledOut])), (h_a0_ruledOut, jI D 27 a0_ruledOut_)]) (ws2 := [(h_a0, .inr (2, [.int a0_rows, .int a0_columns, .int a0_paints, .int a0_apart, .int a0_paintsOf0, .int a0_paintsOf1, .int a0_old, .int a0_shut, .int a0_all, .int a0_firstColumn, .int a0_fitsAtFirst, .int a0_paintingsOf0, .int a0_paintingsOf1, .ref h_a0_ruledOut])), (h_a0_ruledOut, jI D 27 a0_ruledOut_)]) rfl rfl rfl rfl rfl (Nat.le_of_ble_eq_true rfl) dX8_fillings_15 ?_
      refine j_iconst C dX8_fillings_18 (v := (-1 : Int32)) (by decide) ?_
      refine j_ixor C dX8_fillings_19 ?_
      refine j_iand C dX8_fillings_20 ?_
      refine j_if_eq C (tgt := 26) dX8_fillings_21 (by decide) h (fun c5 h => ?_) (fun c5 h => ?_)
      · refine j_iload_n C dX8_fillings_26 rfl 2 rfl ?_
        refine j_iload_n C dX8_fillings_27 rfl 2 rfl ?_
        refine j_ineg C dX8_fillings_28 ?_
        refine j_iand C dX8_fillings_29 ?_
        refine j_istore C dX8_fillings_30 (lv' := fun v6 => [(5, .int v6), (0, .ref h_a0), (1, .int p1), (2, .int p2), (3, .int p3), (4, .int p4)]) (by decide) (fun _ => rfl) h (fun v6 h => ?_)
        refine j_iconst C dX8_fillings_32 (v := (0 : Int32)) (by decide) ?_
        refine j_istoreC C dX8_fillings_33 (lv' := [(6, .int ((0 : Int32))), (5, .int v6), (0, .ref h_a0), (1, .int p1), (2, .int p2), (3, .int p3), (4, .int p4)]) (by decide) rfl ?_
        refine j_iconst C dX8_fillings_35 (v := (1 : Int32)) (by decide) ?_
        refine j_istoreC C dX8_fillings_36 (lv' := [(7, .int ((1 : Int32))), (6, .int ((0 : Int32))), (5, .int v6), (0, .ref h_a0), (1, .int p1), (2, .int p2), (3, .int p3), (4, .int p4)]) (by decide) rfl ?_
        refine j_sub (lv' := [(0, .ref h_a0), (1, .int p1), (2, .int p2), (3, .int p3), (4, .int p4), (5, .int v6), (6, .int ((0 : Int32))), (7, .int ((1 : Int32)))]) [3, 4, 5, 6, 7, 2, 1, 0] rfl ?_
        exact L38 v6 ((0 : Int32)) ((1 : Int32)) h
      · refine j_iconst C dX8_fillings_24 (v := (0 : Int32)) (by decide) ?_
        exact j_iretR C (r := r) (rtf := fun r => (some (.int r))) (wff := fun r => (oX8_fillings D h_a0 h_a0_ruledOut a0_rows a0_columns a0_paints a0_apart a0_paintsOf0 a0_paintsOf1 a0_old a0_shut a0_all a0_firstColumn a0_fitsAtFirst a0_paintingsOf0 a0_paintingsOf1 a0_ruledOut_ r)) E h rfl rfl dX8_fillings_25
set_option maxHeartbeats 4000000 in
theorem mX8_fillings (l : Launch) (D : jv_D) (F : Nat) (d : Nat) : ∀ (h_a0 : Nat) (h_a0_ruledOut : Nat) (a0_rows : Int32) (a0_columns : Int32) (a0_paints : Int32) (a0_apart : Int32) (a0_paintsOf0 : Int32) (a0_paintsOf1 : Int32) (a0_old : Int32) (a0_shut : Int32) (a0_all : Int32) (a0_firstColumn : Int32) (a0_fitsAtFirst : Int32) (a0_paintingsOf0 : Int32) (a0_paintingsOf1 : Int32) (a0_ruledOut_ : Nat → Int32) (p1 : Int32) (p2 : Int32) (p3 : Int32) (p4 : Int32) (r : Int32), fX8_fillings F d a0_ruledOut_ p1 p2 p3 p4 = some r → MM l yX8_fillings (jW yX8_fillings cX8_fillings 9 (some .int)) ({ frames := 2 * d, cells := 0, slots := 0, locals := 43 * d }) D [.ref h_a0, .int p1, .int p2, .int p3, .int p4] [(h_a0, .inr (2, [.int a0_rows, .int a0_columns, .int a0_paints, .int a0_apart, .int a0_paintsOf0, .int a0_paintsOf1, .int a0_old, .int a0_shut, .int a0_all, .int a0_firstColumn, .int a0_fitsAtFirst, .int a0_paintingsOf0, .int a0_paintingsOf1, .ref h_a0_ruledOut])), (h_a0_ruledOut, jI D 27 a0_ruledOut_)] (some (.int r)) (oX8_fillings D h_a0 h_a0_ruledOut a0_rows a0_columns a0_paints a0_apart a0_paintsOf0 a0_paintsOf1 a0_old a0_shut a0_all a0_firstColumn a0_fitsAtFirst a0_paintingsOf0 a0_paintingsOf1 a0_ruledOut_ r) := by
  induction d with
  | zero => intro h_a0 h_a0_ruledOut a0_rows a0_columns a0_paints a0_apart a0_paintsOf0 a0_paintsOf1 a0_old a0_shut a0_all a0_firstColumn a0_fitsAtFirst a0_paintingsOf0 a0_paintingsOf1 a0_ruledOut_ p1 p2 p3 p4 r h; exact absurd (show (none : Option (Int32)) = some r from h) (by intro e; cases e)
  | succ d ih => intro h_a0 h_a0_ruledOut a0_rows a0_columns a0_paints a0_apart a0_paintsOf0 a0_paintsOf1 a0_old a0_shut a0_all a0_firstColumn a0_fitsAtFirst a0_paintingsOf0 a0_paintingsOf1 a0_ruledOut_ p1 p2 p3 p4 r h; exact mgX8_fillings l D F (fX8_fillings F d) (2 * d) (43 * d) ih h_a0 h_a0_ruledOut a0_rows a0_columns a0_paints a0_apart a0_paintsOf0 a0_paintsOf1 a0_old a0_shut a0_all a0_firstColumn a0_fitsAtFirst a0_paintingsOf0 a0_paintingsOf1 a0_ruledOut_ p1 p2 p3 p4 r h
theorem dX8_waysToFill_0 : decode cX8_waysToFill 0 = .ok (.aload_n 0, 1) := by decide +kernel
theorem dX8_waysToFill_1 : decode cX8_waysToFill 1 = .ok (.aload_n 0, 1) := by decide +kernel
theorem dX8_waysToFill_2 : decode cX8_waysToFill 2 = .ok (.iload_n 1, 1) := by decide +kernel
theorem dX8_waysToFill_3 : decode cX8_waysToFill 3 = .ok (.invokevirtual 9, 3) := by decide +kernel
theorem dX8_waysToFill_6 : decode cX8_waysToFill 6 = .ok (.aload_n 0, 1) := by decide +kernel
theorem dX8_waysToFill_7 : decode cX8_waysToFill 7 = .ok (.iload_n 1, 1) := by decide +kernel
theorem dX8_waysToFill_8 : decode cX8_waysToFill 8 = .ok (.invokevirtual 15, 3) := by decide +kernel
theorem dX8_waysToFill_11 : decode cX8_waysToFill 11 = .ok (.sipush 20000, 3) := by decide +kernel
theorem dX8_waysToFill_14 : decode cX8_waysToFill 14 = .ok (.iconst 0, 1) := by decide +kernel
theorem dX8_waysToFill_15 : decode cX8_waysToFill 15 = .ok (.invokestatic 20, 3) := by decide +kernel
theorem dX8_waysToFill_18 : decode cX8_waysToFill 18 = .ok (.ireturn, 1) := by decide +kernel
def fX8_waysToFill (F : Nat) (a0_shut : Int32) (a0_all : Int32) (a0_fitsAtFirst : Int32) (a0_ruledOut_ : Nat → Int32) (p1 : Int32) : Option (Int32) :=
((fX3_fitting F a0_fitsAtFirst a0_ruledOut_ p1).bind fun r1 =>
((fX3_bare a0_shut a0_all p1).bind fun r3 =>
((fX8_fillings F 11 a0_ruledOut_ r1 r3 ((20000 : Int32)) ((0 : Int32))).bind fun r5 =>
(some (r5)))))
def oX8_waysToFill (D : jv_D) (h_a0 : Nat) (h_a0_ruledOut : Nat) (a0_rows : Int32) (a0_columns : Int32) (a0_paints : Int32) (a0_apart : Int32) (a0_paintsOf0 : Int32) (a0_paintsOf1 : Int32) (a0_old : Int32) (a0_shut : Int32) (a0_all : Int32) (a0_firstColumn : Int32) (a0_fitsAtFirst : Int32) (a0_paintingsOf0 : Int32) (a0_paintingsOf1 : Int32) (a0_ruledOut_ : Nat → Int32) (r : Int32) : va_W := [(h_a0, .inr (2, [.int a0_rows, .int a0_columns, .int a0_paints, .int a0_apart, .int a0_paintsOf0, .int a0_paintsOf1, .int a0_old, .int a0_shut, .int a0_all, .int a0_firstColumn, .int a0_fitsAtFirst, .int a0_paintingsOf0, .int a0_paintingsOf1, .ref h_a0_ruledOut])), (h_a0_ruledOut, jI D 27 a0_ruledOut_)]
set_option maxHeartbeats 40000000 in
set_option maxRecDepth 100000 in
theorem mX8_waysToFill (l : Launch) (D : jv_D) (F : Nat) (h_a0 : Nat) (h_a0_ruledOut : Nat) (a0_rows : Int32) (a0_columns : Int32) (a0_paints : Int32) (a0_apart : Int32) (a0_paintsOf0 : Int32) (a0_paintsOf1 : Int32) (a0_old : Int32) (a0_shut : Int32) (a0_all : Int32) (a0_firstColumn : Int32) (a0_fitsAtFirst : Int32) (a0_paintingsOf0 : Int32) (a0_paintingsOf1 : Int32) (a0_ruledOut_ : Nat → Int32) (p1 : Int32) (r : Int32) (h : fX8_waysToFill F a0_shut a0_all a0_fitsAtFirst a0_ruledOut_ p1 = some r) : MM l yX8_waysToFill (jW yX8_waysToFill cX8_waysToFill 2 (some .int)) ({ frames := 23, cells := 0, slots := 0, locals := 501 }) D [.ref h_a0, .int p1] [(h_a0, .inr (2, [.int a0_rows, .int a0_columns, .int a0_paints, .int a0_apart, .int a0_paintsOf0, .int a0_paintsOf1, .int a0_old, .int a0_shut, .int a0_all, .int a0_firstColumn, .int a0_fitsAtFirst, .int a0_paintingsOf0, .int a0_paintingsOf1, .ref h_a0_ruledOut])), (h_a0_ruledOut, jI D 27 a0_ruledOut_)] (some (.int r)) (oX8_waysToFill D h_a0 h_a0_ruledOut a0_rows a0_columns a0_paints a0_apart a0_paintsOf0 a0_paintsOf1 a0_old a0_shut a0_all a0_firstColumn a0_fitsAtFirst a0_paintingsOf0 a0_paintingsOf1 a0_ruledOut_ r) := by
  refine mn_of hpX8_waysToFill (Nat.le_of_ble_eq_true rfl) ?_
  intro X hXl C E0 hN
  subst hXl
  replace C : JC D X 2 RX8 cX8_waysToFill ({ frames := 23, cells := 0, slots := 0, locals := 501 }) := C
  have E : JE D X 0 0 (some .int) (fun _ : Unit => (some (.int r))) (fun _ : Unit => (oX8_waysToFill D h_a0 h_a0_ruledOut a0_rows a0_columns a0_paints a0_apart a0_paintsOf0 a0_paintsOf1 a0_old a0_shut a0_all a0_firstColumn a0_fitsAtFirst a0_paintingsOf0 a0_paintingsOf1 a0_ruledOut_ r)) := E0 0 0 rfl rfl
  clear E0 hN
  show JJ D X 2 0 0 0 [(0, .ref h_a0), (1, .int p1)] [] [(h_a0, .inr (2, [.int a0_rows, .int a0_columns, .int a0_paints, .int a0_apart, .int a0_paintsOf0, .int a0_paintsOf1, .int a0_old, .int a0_shut, .int a0_all, .int a0_firstColumn, .int a0_fitsAtFirst, .int a0_paintingsOf0, .int a0_paintingsOf1, .ref h_a0_ruledOut])), (h_a0_ruledOut, jI D 27 a0_ruledOut_)]
  unfold fX8_waysToFill at h
  refine j_aload_n C dX8_waysToFill_0 rfl 0 rfl ?_
  refine j_aload_n C dX8_waysToFill_1 rfl 0 rfl ?_
  refine j_iload_n C dX8_waysToFill_2 rfl 1 rfl ?_
  obtain ⟨r1, q2, h⟩ := jl_bind h
  refine j_cV1 C (mX3_fitting (jlaunch X) D F h_a0 h_a0_ruledOut a0_rows a0_columns a0_paints a0_apart a0_paintsOf0 a0_paintsOf1 a0_old a0_shut a0_all a0_firstColumn a0_fitsAtFirst a0_paintingsOf0 a0_paintingsOf1 a0_ruledOut_ p1 r1 q2) bmX8_9 biX3_fitting bsX3_fitting bzX3 bcX3_fitting rfl hX3_fitting (rest := [.ref h_a0]) rfl (jroom_of rfl) 0 (ci := 2) rfl rfl rfl [0, 1] [] [0, 1] (wr := []) (ws2 := [(h_a0, .inr (2, [.int a0_rows, .int a0_columns, .int a0_paints, .int a0_apart, .int a0_paintsOf0, .int a0_paintsOf1, .int a0_old, .int a0_shut, .int a0_all, .int a0_firstColumn, .int a0_fitsAtFirst, .int a0_paintingsOf0, .int a0_paintingsOf1, .ref h_a0_ruledOut])), (h_a0_ruledOut, jI D 27 a0_ruledOut_)]) rfl rfl rfl rfl rfl (Nat.le_of_ble_eq_true rfl) dX8_waysToFill_3 ?_
  refine j_aload_n C dX8_waysToFill_6 rfl 0 rfl ?_
  refine j_iload_n C dX8_waysToFill_7 rfl 1 rfl ?_
  obtain ⟨r3, q4, h⟩ := jl_bind h
  refine j_cV1 C (mX3_bare (jlaunch X) D h_a0 h_a0_ruledOut a0_rows a0_columns a0_paints a0_apart a0_paintsOf0 a0_paintsOf1 a0_old a0_shut a0_all a0_firstColumn a0_fitsAtFirst a0_paintingsOf0 a0_paintingsOf1 p1 r3 q4) bmX8_15 biX3_bare bsX3_bare bzX3 bcX3_bare rfl hX3_bare (rest := [.int r1, .ref h_a0]) rfl (jroom_of rfl) 0 (ci := 2) rfl rfl rfl [0] [1] [1, 0] (wr := [(h_a0_ruledOut, jI D 27 a0_ruledOut_)]) (ws2 := [(h_a0, .inr (2, [.int a0_rows, .int a0_columns, .int a0_paints, .int a0_apart, .int a0_paintsOf0, .int a0_paintsOf1, .int a0_old, .int a0_shut, .int a0_all, .int a0_firstColumn, .int a0_fitsAtFirst, .int a0_paintingsOf0, .int a0_paintingsOf1, .ref h_a0_ruledOut])), (h_a0_ruledOut, jI D 27 a0_ruledOut_)]) rfl rfl rfl rfl rfl (Nat.le_of_ble_eq_true rfl) dX8_waysToFill_8 ?_
  refine j_sipush C dX8_waysToFill_11 (v := (20000 : Int32)) (by decide) ?_
  refine j_iconst C dX8_waysToFill_14 (v := (0 : Int32)) (by decide) ?_
  obtain ⟨r5, q6, h⟩ := jl_bind h
  refine j_cS1 C (mX8_fillings (jlaunch X) D F 11 h_a0 h_a0_ruledOut a0_rows a0_columns a0_paints a0_apart a0_paintsOf0 a0_paintsOf1 a0_old a0_shut a0_all a0_firstColumn a0_fitsAtFirst a0_paintingsOf0 a0_paintingsOf1 a0_ruledOut_ r1 r3 ((20000 : Int32)) ((0 : Int32)) r5 q6) bmX8_20 btX8_fillings bzX8 bcX8_fillings hX8_fillings (rest := []) rfl (jroom_of rfl) [0, 1] [] [0, 1] (wr := []) (ws2 := [(h_a0, .inr (2, [.int a0_rows, .int a0_columns, .int a0_paints, .int a0_apart, .int a0_paintsOf0, .int a0_paintsOf1, .int a0_old, .int a0_shut, .int a0_all, .int a0_firstColumn, .int a0_fitsAtFirst, .int a0_paintingsOf0, .int a0_paintingsOf1, .ref h_a0_ruledOut])), (h_a0_ruledOut, jI D 27 a0_ruledOut_)]) rfl rfl rfl rfl rfl (Nat.le_of_ble_eq_true rfl) dX8_waysToFill_15 ?_
  exact j_iretR C (r := r) (rtf := fun r => (some (.int r))) (wff := fun r => (oX8_waysToFill D h_a0 h_a0_ruledOut a0_rows a0_columns a0_paints a0_apart a0_paintsOf0 a0_paintsOf1 a0_old a0_shut a0_all a0_firstColumn a0_fitsAtFirst a0_paintingsOf0 a0_paintingsOf1 a0_ruledOut_ r)) E h rfl rfl dX8_waysToFill_18
theorem dX8_canBeDone_0 : decode cX8_canBeDone 0 = .ok (.aload_n 0, 1) := by decide +kernel
theorem dX8_canBeDone_1 : decode cX8_canBeDone 1 = .ok (.aload_n 0, 1) := by decide +kernel
theorem dX8_canBeDone_2 : decode cX8_canBeDone 2 = .ok (.iload_n 1, 1) := by decide +kernel
theorem dX8_canBeDone_3 : decode cX8_canBeDone 3 = .ok (.invokevirtual 9, 3) := by decide +kernel
theorem dX8_canBeDone_6 : decode cX8_canBeDone 6 = .ok (.aload_n 0, 1) := by decide +kernel
theorem dX8_canBeDone_7 : decode cX8_canBeDone 7 = .ok (.iload_n 1, 1) := by decide +kernel
theorem dX8_canBeDone_8 : decode cX8_canBeDone 8 = .ok (.invokevirtual 15, 3) := by decide +kernel
theorem dX8_canBeDone_11 : decode cX8_canBeDone 11 = .ok (.iconst 1, 1) := by decide +kernel
theorem dX8_canBeDone_12 : decode cX8_canBeDone 12 = .ok (.iconst 0, 1) := by decide +kernel
theorem dX8_canBeDone_13 : decode cX8_canBeDone 13 = .ok (.invokestatic 20, 3) := by decide +kernel
theorem dX8_canBeDone_16 : decode cX8_canBeDone 16 = .ok (.ifCond .eq 7, 3) := by decide +kernel
theorem dX8_canBeDone_19 : decode cX8_canBeDone 19 = .ok (.iconst 1, 1) := by decide +kernel
theorem dX8_canBeDone_20 : decode cX8_canBeDone 20 = .ok (.goto 4, 3) := by decide +kernel
theorem dX8_canBeDone_23 : decode cX8_canBeDone 23 = .ok (.iconst 0, 1) := by decide +kernel
theorem dX8_canBeDone_24 : decode cX8_canBeDone 24 = .ok (.ireturn, 1) := by decide +kernel
def fX8_canBeDone (F : Nat) (a0_shut : Int32) (a0_all : Int32) (a0_fitsAtFirst : Int32) (a0_ruledOut_ : Nat → Int32) (p1 : Int32) : Option (Int32) :=
((fX3_fitting F a0_fitsAtFirst a0_ruledOut_ p1).bind fun r1 =>
((fX3_bare a0_shut a0_all p1).bind fun r3 =>
((fX8_fillings F 11 a0_ruledOut_ r1 r3 ((1 : Int32)) ((0 : Int32))).bind fun r5 =>
(if r5 = 0 then
(some ((0 : Int32)))
else
(some ((1 : Int32)))))))
def oX8_canBeDone (D : jv_D) (h_a0 : Nat) (h_a0_ruledOut : Nat) (a0_rows : Int32) (a0_columns : Int32) (a0_paints : Int32) (a0_apart : Int32) (a0_paintsOf0 : Int32) (a0_paintsOf1 : Int32) (a0_old : Int32) (a0_shut : Int32) (a0_all : Int32) (a0_firstColumn : Int32) (a0_fitsAtFirst : Int32) (a0_paintingsOf0 : Int32) (a0_paintingsOf1 : Int32) (a0_ruledOut_ : Nat → Int32) (r : Int32) : va_W := [(h_a0, .inr (2, [.int a0_rows, .int a0_columns, .int a0_paints, .int a0_apart, .int a0_paintsOf0, .int a0_paintsOf1, .int a0_old, .int a0_shut, .int a0_all, .int a0_firstColumn, .int a0_fitsAtFirst, .int a0_paintingsOf0, .int a0_paintingsOf1, .ref h_a0_ruledOut])), (h_a0_ruledOut, jI D 27 a0_ruledOut_)]
set_option maxHeartbeats 40000000 in
set_option maxRecDepth 100000 in
theorem mX8_canBeDone (l : Launch) (D : jv_D) (F : Nat) (h_a0 : Nat) (h_a0_ruledOut : Nat) (a0_rows : Int32) (a0_columns : Int32) (a0_paints : Int32) (a0_apart : Int32) (a0_paintsOf0 : Int32) (a0_paintsOf1 : Int32) (a0_old : Int32) (a0_shut : Int32) (a0_all : Int32) (a0_firstColumn : Int32) (a0_fitsAtFirst : Int32) (a0_paintingsOf0 : Int32) (a0_paintingsOf1 : Int32) (a0_ruledOut_ : Nat → Int32) (p1 : Int32) (r : Int32) (h : fX8_canBeDone F a0_shut a0_all a0_fitsAtFirst a0_ruledOut_ p1 = some r) : MM l yX8_canBeDone (jW yX8_canBeDone cX8_canBeDone 2 (some .boolean)) ({ frames := 23, cells := 0, slots := 0, locals := 501 }) D [.ref h_a0, .int p1] [(h_a0, .inr (2, [.int a0_rows, .int a0_columns, .int a0_paints, .int a0_apart, .int a0_paintsOf0, .int a0_paintsOf1, .int a0_old, .int a0_shut, .int a0_all, .int a0_firstColumn, .int a0_fitsAtFirst, .int a0_paintingsOf0, .int a0_paintingsOf1, .ref h_a0_ruledOut])), (h_a0_ruledOut, jI D 27 a0_ruledOut_)] (some (.int r)) (oX8_canBeDone D h_a0 h_a0_ruledOut a0_rows a0_columns a0_paints a0_apart a0_paintsOf0 a0_paintsOf1 a0_old a0_shut a0_all a0_firstColumn a0_fitsAtFirst a0_paintingsOf0 a0_paintingsOf1 a0_ruledOut_ r) := by
  refine mn_of hpX8_canBeDone (Nat.le_of_ble_eq_true rfl) ?_
  intro X hXl C E0 hN
  subst hXl
  replace C : JC D X 2 RX8 cX8_canBeDone ({ frames := 23, cells := 0, slots := 0, locals := 501 }) := C
  have E : JE D X 0 0 (some .boolean) (fun _ : Unit => (some (.int r))) (fun _ : Unit => (oX8_canBeDone D h_a0 h_a0_ruledOut a0_rows a0_columns a0_paints a0_apart a0_paintsOf0 a0_paintsOf1 a0_old a0_shut a0_all a0_firstColumn a0_fitsAtFirst a0_paintingsOf0 a0_paintingsOf1 a0_ruledOut_ r)) := E0 0 0 rfl rfl
  clear E0 hN
  show JJ D X 2 0 0 0 [(0, .ref h_a0), (1, .int p1)] [] [(h_a0, .inr (2, [.int a0_rows, .int a0_columns, .int a0_paints, .int a0_apart, .int a0_paintsOf0, .int a0_paintsOf1, .int a0_old, .int a0_shut, .int a0_all, .int a0_firstColumn, .int a0_fitsAtFirst, .int a0_paintingsOf0, .int a0_paintingsOf1, .ref h_a0_ruledOut])), (h_a0_ruledOut, jI D 27 a0_ruledOut_)]
  unfold fX8_canBeDone at h
  refine j_aload_n C dX8_canBeDone_0 rfl 0 rfl ?_
  refine j_aload_n C dX8_canBeDone_1 rfl 0 rfl ?_
  refine j_iload_n C dX8_canBeDone_2 rfl 1 rfl ?_
  obtain ⟨r1, q2, h⟩ := jl_bind h
  refine j_cV1 C (mX3_fitting (jlaunch X) D F h_a0 h_a0_ruledOut a0_rows a0_columns a0_paints a0_apart a0_paintsOf0 a0_paintsOf1 a0_old a0_shut a0_all a0_firstColumn a0_fitsAtFirst a0_paintingsOf0 a0_paintingsOf1 a0_ruledOut_ p1 r1 q2) bmX8_9 biX3_fitting bsX3_fitting bzX3 bcX3_fitting rfl hX3_fitting (rest := [.ref h_a0]) rfl (jroom_of rfl) 0 (ci := 2) rfl rfl rfl [0, 1] [] [0, 1] (wr := []) (ws2 := [(h_a0, .inr (2, [.int a0_rows, .int a0_columns, .int a0_paints, .int a0_apart, .int a0_paintsOf0, .int a0_paintsOf1, .int a0_old, .int a0_shut, .int a0_all, .int a0_firstColumn, .int a0_fitsAtFirst, .int a0_paintingsOf0, .int a0_paintingsOf1, .ref h_a0_ruledOut])), (h_a0_ruledOut, jI D 27 a0_ruledOut_)]) rfl rfl rfl rfl rfl (Nat.le_of_ble_eq_true rfl) dX8_canBeDone_3 ?_
  refine j_aload_n C dX8_canBeDone_6 rfl 0 rfl ?_
  refine j_iload_n C dX8_canBeDone_7 rfl 1 rfl ?_
  obtain ⟨r3, q4, h⟩ := jl_bind h
  refine j_cV1 C (mX3_bare (jlaunch X) D h_a0 h_a0_ruledOut a0_rows a0_columns a0_paints a0_apart a0_paintsOf0 a0_paintsOf1 a0_old a0_shut a0_all a0_firstColumn a0_fitsAtFirst a0_paintingsOf0 a0_paintingsOf1 p1 r3 q4) bmX8_15 biX3_bare bsX3_bare bzX3 bcX3_bare rfl hX3_bare (rest := [.int r1, .ref h_a0]) rfl (jroom_of rfl) 0 (ci := 2) rfl rfl rfl [0] [1] [1, 0] (wr := [(h_a0_ruledOut, jI D 27 a0_ruledOut_)]) (ws2 := [(h_a0, .inr (2, [.int a0_rows, .int a0_columns, .int a0_paints, .int a0_apart, .int a0_paintsOf0, .int a0_paintsOf1, .int a0_old, .int a0_shut, .int a0_all, .int a0_firstColumn, .int a0_fitsAtFirst, .int a0_paintingsOf0, .int a0_paintingsOf1, .ref h_a0_ruledOut])), (h_a0_ruledOut, jI D 27 a0_ruledOut_)]) rfl rfl rfl rfl rfl (Nat.le_of_ble_eq_true rfl) dX8_canBeDone_8 ?_
  refine j_iconst C dX8_canBeDone_11 (v := (1 : Int32)) (by decide) ?_
  refine j_iconst C dX8_canBeDone_12 (v := (0 : Int32)) (by decide) ?_
  obtain ⟨r5, q6, h⟩ := jl_bind h
  refine j_cS1 C (mX8_fillings (jlaunch X) D F 11 h_a0 h_a0_ruledOut a0_rows a0_columns a0_paints a0_apart a0_paintsOf0 a0_paintsOf1 a0_old a0_shut a0_all a0_firstColumn a0_fitsAtFirst a0_paintingsOf0 a0_paintingsOf1 a0_ruledOut_ r1 r3 ((1 : Int32)) ((0 : Int32)) r5 q6) bmX8_20 btX8_fillings bzX8 bcX8_fillings hX8_fillings (rest := []) rfl (jroom_of rfl) [0, 1] [] [0, 1] (wr := []) (ws2 := [(h_a0, .inr (2, [.int a0_rows, .int a0_columns, .int a0_paints, .int a0_apart, .int a0_paintsOf0, .int a0_paintsOf1, .int a0_old, .int a0_shut, .int a0_all, .int a0_firstColumn, .int a0_fitsAtFirst, .int a0_paintingsOf0, .int a0_paintingsOf1, .ref h_a0_ruledOut])), (h_a0_ruledOut, jI D 27 a0_ruledOut_)]) rfl rfl rfl rfl rfl (Nat.le_of_ble_eq_true rfl) dX8_canBeDone_13 ?_
  refine j_if_eq C (tgt := 23) dX8_canBeDone_16 (by decide) h (fun c7 h => ?_) (fun c7 h => ?_)
  · refine j_iconst C dX8_canBeDone_23 (v := (0 : Int32)) (by decide) ?_
    exact j_zretR C (r := r) (rtf := fun r => (some (.int r))) (wff := fun r => (oX8_canBeDone D h_a0 h_a0_ruledOut a0_rows a0_columns a0_paints a0_apart a0_paintsOf0 a0_paintsOf1 a0_old a0_shut a0_all a0_firstColumn a0_fitsAtFirst a0_paintingsOf0 a0_paintingsOf1 a0_ruledOut_ r)) E rfl h rfl rfl dX8_canBeDone_24
  · refine j_iconst C dX8_canBeDone_19 (v := (1 : Int32)) (by decide) ?_
    refine j_goto C dX8_canBeDone_20 (tgt := 24) (by decide) ?_
    exact j_zretR C (r := r) (rtf := fun r => (some (.int r))) (wff := fun r => (oX8_canBeDone D h_a0 h_a0_ruledOut a0_rows a0_columns a0_paints a0_apart a0_paintsOf0 a0_paintsOf1 a0_old a0_shut a0_all a0_firstColumn a0_fitsAtFirst a0_paintingsOf0 a0_paintingsOf1 a0_ruledOut_ r)) E rfl h rfl rfl dX8_canBeDone_24
theorem dX8_paintsIn_0 : decode cX8_paintsIn 0 = .ok (.iconst 0, 1) := by decide +kernel
theorem dX8_paintsIn_1 : decode cX8_paintsIn 1 = .ok (.istore_n 1, 1) := by decide +kernel
theorem dX8_paintsIn_2 : decode cX8_paintsIn 2 = .ok (.iconst 1, 1) := by decide +kernel
theorem dX8_paintsIn_3 : decode cX8_paintsIn 3 = .ok (.istore_n 2, 1) := by decide +kernel
theorem dX8_paintsIn_4 : decode cX8_paintsIn 4 = .ok (.iload_n 2, 1) := by decide +kernel
theorem dX8_paintsIn_5 : decode cX8_paintsIn 5 = .ok (.iconst 3, 1) := by decide +kernel
theorem dX8_paintsIn_6 : decode cX8_paintsIn 6 = .ok (.if_icmp .gt 29, 3) := by decide +kernel
theorem dX8_paintsIn_9 : decode cX8_paintsIn 9 = .ok (.iload_n 1, 1) := by decide +kernel
theorem dX8_paintsIn_10 : decode cX8_paintsIn 10 = .ok (.iload_n 0, 1) := by decide +kernel
theorem dX8_paintsIn_11 : decode cX8_paintsIn 11 = .ok (.iload_n 2, 1) := by decide +kernel
theorem dX8_paintsIn_12 : decode cX8_paintsIn 12 = .ok (.invokestatic 46, 3) := by decide +kernel
theorem dX8_paintsIn_15 : decode cX8_paintsIn 15 = .ok (.ifCond .eq 11, 3) := by decide +kernel
theorem dX8_paintsIn_18 : decode cX8_paintsIn 18 = .ok (.iconst 1, 1) := by decide +kernel
theorem dX8_paintsIn_19 : decode cX8_paintsIn 19 = .ok (.iload_n 2, 1) := by decide +kernel
theorem dX8_paintsIn_20 : decode cX8_paintsIn 20 = .ok (.iconst 1, 1) := by decide +kernel
theorem dX8_paintsIn_21 : decode cX8_paintsIn 21 = .ok (.isub, 1) := by decide +kernel
theorem dX8_paintsIn_22 : decode cX8_paintsIn 22 = .ok (.ishl, 1) := by decide +kernel
theorem dX8_paintsIn_23 : decode cX8_paintsIn 23 = .ok (.goto 4, 3) := by decide +kernel
theorem dX8_paintsIn_26 : decode cX8_paintsIn 26 = .ok (.iconst 0, 1) := by decide +kernel
theorem dX8_paintsIn_27 : decode cX8_paintsIn 27 = .ok (.ior, 1) := by decide +kernel
theorem dX8_paintsIn_28 : decode cX8_paintsIn 28 = .ok (.istore_n 1, 1) := by decide +kernel
theorem dX8_paintsIn_29 : decode cX8_paintsIn 29 = .ok (.iinc 2 1, 3) := by decide +kernel
theorem dX8_paintsIn_32 : decode cX8_paintsIn 32 = .ok (.goto (-28), 3) := by decide +kernel
theorem dX8_paintsIn_35 : decode cX8_paintsIn 35 = .ok (.iload_n 1, 1) := by decide +kernel
theorem dX8_paintsIn_36 : decode cX8_paintsIn 36 = .ok (.ireturn, 1) := by decide +kernel
def fX8_paintsIn_27 (F : Nat) (p0 : Int32) (k4 : Int32 → Int32 → Option (Int32)) (x7 : Int32) (s8 : Int32) (s9 : Int32) : Option (Int32) :=
(jl_let (s9 ||| s8) fun v10 =>
(jl_let (x7 + Int32.ofInt (1)) fun v11 =>
(k4 v10 v11)))
def bX8_paintsIn_4 (F : Nat) (p0 : Int32)  (k4 : Int32 → Int32 → Option (Int32)) (x1 : Int32) (x2 : Int32) : Option (Int32) :=
(if ((3 : Int32)) < x2 then
(some (x1))
else
((fX3_stonesWith p0 x2).bind fun r4 =>
(if r4 = 0 then
(fX8_paintsIn_27 F p0 k4 x2 ((0 : Int32)) x1)
else
(fX8_paintsIn_27 F p0 k4 x2 (((1 : Int32)) <<< ((x2 - ((1 : Int32))) &&& 31)) x1))))
def lX8_paintsIn_4 (F : Nat) (p0 : Int32)  (F2 : Nat) (x1 : Int32) (x2 : Int32) : Option (Int32) := jl_loop2 (bX8_paintsIn_4 F p0 ) F2 x1 x2
def fX8_paintsIn (F : Nat) (p0 : Int32) : Option (Int32) :=
(lX8_paintsIn_4 F p0 F ((0 : Int32)) ((1 : Int32)))
def oX8_paintsIn (D : jv_D)  (r : Int32) : va_W := []
set_option maxHeartbeats 40000000 in
set_option maxRecDepth 100000 in
theorem mX8_paintsIn (l : Launch) (D : jv_D) (F : Nat) (p0 : Int32) (r : Int32) (h : fX8_paintsIn F p0 = some r) : MM l yX8_paintsIn (jW yX8_paintsIn cX8_paintsIn 3 (some .int)) ({ frames := 1, cells := 0, slots := 0, locals := 21 }) D [.int p0] [] (some (.int r)) (oX8_paintsIn D  r) := by
  refine mn_of hpX8_paintsIn (Nat.le_of_ble_eq_true rfl) ?_
  intro X hXl C E0 hN
  subst hXl
  replace C : JC D X 3 RX8 cX8_paintsIn ({ frames := 1, cells := 0, slots := 0, locals := 21 }) := C
  have E : JE D X 0 0 (some .int) (fun _ : Unit => (some (.int r))) (fun _ : Unit => (oX8_paintsIn D  r)) := E0 0 0 rfl rfl
  clear E0 hN
  show JJ D X 3 0 0 0 [(0, .int p0)] [] []
  unfold fX8_paintsIn at h
  have L4 : ∀ (x1 : Int32) (x2 : Int32), lX8_paintsIn_4 F p0  F x1 x2 = some r → JJ D X 3 0 0 4 [(0, .int p0), (1, .int x1), (2, .int x2)] [] [] := by
    intro x1 x2 h
    refine jl_ind2 (fun x1 x2 => JJ D X 3 0 0 4 [(0, .int p0), (1, .int x1), (2, .int x2)] [] []) ?_ F x1 x2 h
    clear h x1 x2
    intro k4 i4 x1 x2 h
    replace i4 : ∀ (x1 : Int32) (x2 : Int32), k4 x1 x2 = some r → JJ D X 3 0 0 4 [(0, .int p0), (1, .int x1), (2, .int x2)] [] [] := i4
    show JJ D X 3 0 0 4 [(0, .int p0), (1, .int x1), (2, .int x2)] [] []
    unfold bX8_paintsIn_4 at h
    have L27 : ∀ (x7 : Int32) (s8 : Int32) (s9 : Int32), fX8_paintsIn_27 F p0 k4 x7 s8 s9 = some r → JJ D X 3 0 0 27 [(0, .int p0), (2, .int x7)] [.int s8, .int s9] [] := by
      intro x7 s8 s9 h
      unfold fX8_paintsIn_27 at h
      refine j_ior C dX8_paintsIn_27 ?_
      refine j_istore_n C dX8_paintsIn_28 rfl (lv' := fun v10 => [(1, .int v10), (0, .int p0), (2, .int x7)]) (by decide) (fun _ => rfl) h (fun v10 h => ?_)
      refine j_iinc C dX8_paintsIn_29 2 rfl (lv' := fun v11 => [(2, .int v11), (1, .int v10), (0, .int p0)]) (by decide) (fun _ => rfl) h (fun v11 h => ?_)
      refine j_goto C dX8_paintsIn_32 (tgt := 4) (by decide) ?_
      refine j_sub (lv' := [(0, .int p0), (1, .int v10), (2, .int v11)]) [2, 1, 0] rfl ?_
      exact i4 v10 v11 h
    refine j_iload_n C dX8_paintsIn_4 rfl 2 rfl ?_
    refine j_iconst C dX8_paintsIn_5 (v := (3 : Int32)) (by decide) ?_
    refine j_icmp_gt C (tgt := 35) dX8_paintsIn_6 (by decide) h (fun c3 h => ?_) (fun c3 h => ?_)
    · refine j_iload_n C dX8_paintsIn_35 rfl 1 rfl ?_
      exact j_iretR C (r := r) (rtf := fun r => (some (.int r))) (wff := fun r => (oX8_paintsIn D  r)) E h rfl rfl dX8_paintsIn_36
    · refine j_iload_n C dX8_paintsIn_9 rfl 1 rfl ?_
      refine j_iload_n C dX8_paintsIn_10 rfl 0 rfl ?_
      refine j_iload_n C dX8_paintsIn_11 rfl 2 rfl ?_
      obtain ⟨r4, q5, h⟩ := jl_bind h
      refine j_cS1 C (mX3_stonesWith (jlaunch X) D p0 x2 r4 q5) bmX8_46 btX3_stonesWith bzX3 bcX3_stonesWith hX3_stonesWith (rest := [.int x1]) rfl (jroom_of rfl) [] [] [] (wr := []) (ws2 := []) rfl rfl rfl rfl rfl (Nat.le_of_ble_eq_true rfl) dX8_paintsIn_12 ?_
      refine j_if_eq C (tgt := 26) dX8_paintsIn_15 (by decide) h (fun c6 h => ?_) (fun c6 h => ?_)
      · refine j_iconst C dX8_paintsIn_26 (v := (0 : Int32)) (by decide) ?_
        refine j_sub (lv' := [(0, .int p0), (2, .int x2)]) [0, 2] rfl ?_
        exact L27 x2 ((0 : Int32)) x1 h
      · refine j_iconst C dX8_paintsIn_18 (v := (1 : Int32)) (by decide) ?_
        refine j_iload_n C dX8_paintsIn_19 rfl 2 rfl ?_
        refine j_iconst C dX8_paintsIn_20 (v := (1 : Int32)) (by decide) ?_
        refine j_isub C dX8_paintsIn_21 ?_
        refine j_ishl C dX8_paintsIn_22 ?_
        refine j_goto C dX8_paintsIn_23 (tgt := 27) (by decide) ?_
        refine j_sub (lv' := [(0, .int p0), (2, .int x2)]) [0, 2] rfl ?_
        exact L27 x2 (((1 : Int32)) <<< ((x2 - ((1 : Int32))) &&& 31)) x1 h
  refine j_iconst C dX8_paintsIn_0 (v := (0 : Int32)) (by decide) ?_
  refine j_istore_nC C dX8_paintsIn_1 rfl (lv' := [(1, .int ((0 : Int32))), (0, .int p0)]) (by decide) rfl ?_
  refine j_iconst C dX8_paintsIn_2 (v := (1 : Int32)) (by decide) ?_
  refine j_istore_nC C dX8_paintsIn_3 rfl (lv' := [(2, .int ((1 : Int32))), (1, .int ((0 : Int32))), (0, .int p0)]) (by decide) rfl ?_
  refine j_sub (lv' := [(0, .int p0), (1, .int ((0 : Int32))), (2, .int ((1 : Int32)))]) [2, 1, 0] rfl ?_
  exact L4 ((0 : Int32)) ((1 : Int32)) h
theorem dX8_fewestPaints_0 : decode cX8_fewestPaints 0 = .ok (.aload_n 0, 1) := by decide +kernel
theorem dX8_fewestPaints_1 : decode cX8_fewestPaints 1 = .ok (.iload_n 1, 1) := by decide +kernel
theorem dX8_fewestPaints_2 : decode cX8_fewestPaints 2 = .ok (.invokevirtual 9, 3) := by decide +kernel
theorem dX8_fewestPaints_5 : decode cX8_fewestPaints 5 = .ok (.istore_n 2, 1) := by decide +kernel
theorem dX8_fewestPaints_6 : decode cX8_fewestPaints 6 = .ok (.aload_n 0, 1) := by decide +kernel
theorem dX8_fewestPaints_7 : decode cX8_fewestPaints 7 = .ok (.iload_n 1, 1) := by decide +kernel
theorem dX8_fewestPaints_8 : decode cX8_fewestPaints 8 = .ok (.invokevirtual 15, 3) := by decide +kernel
theorem dX8_fewestPaints_11 : decode cX8_fewestPaints 11 = .ok (.istore_n 3, 1) := by decide +kernel
theorem dX8_fewestPaints_12 : decode cX8_fewestPaints 12 = .ok (.iload_n 1, 1) := by decide +kernel
theorem dX8_fewestPaints_13 : decode cX8_fewestPaints 13 = .ok (.invokestatic 31, 3) := by decide +kernel
theorem dX8_fewestPaints_16 : decode cX8_fewestPaints 16 = .ok (.istore 4, 2) := by decide +kernel
theorem dX8_fewestPaints_18 : decode cX8_fewestPaints 18 = .ok (.iconst 0, 1) := by decide +kernel
theorem dX8_fewestPaints_19 : decode cX8_fewestPaints 19 = .ok (.istore 5, 2) := by decide +kernel
theorem dX8_fewestPaints_21 : decode cX8_fewestPaints 21 = .ok (.iload 5, 2) := by decide +kernel
theorem dX8_fewestPaints_23 : decode cX8_fewestPaints 23 = .ok (.iconst 3, 1) := by decide +kernel
theorem dX8_fewestPaints_24 : decode cX8_fewestPaints 24 = .ok (.if_icmp .gt 82, 3) := by decide +kernel
theorem dX8_fewestPaints_27 : decode cX8_fewestPaints 27 = .ok (.iconst 0, 1) := by decide +kernel
theorem dX8_fewestPaints_28 : decode cX8_fewestPaints 28 = .ok (.istore 6, 2) := by decide +kernel
theorem dX8_fewestPaints_30 : decode cX8_fewestPaints 30 = .ok (.iload 6, 2) := by decide +kernel
theorem dX8_fewestPaints_32 : decode cX8_fewestPaints 32 = .ok (.aload_n 0, 1) := by decide +kernel
theorem dX8_fewestPaints_33 : decode cX8_fewestPaints 33 = .ok (.invokevirtual 34, 3) := by decide +kernel
theorem dX8_fewestPaints_36 : decode cX8_fewestPaints 36 = .ok (.if_icmp .gt 64, 3) := by decide +kernel
theorem dX8_fewestPaints_39 : decode cX8_fewestPaints 39 = .ok (.iload 6, 2) := by decide +kernel
theorem dX8_fewestPaints_41 : decode cX8_fewestPaints 41 = .ok (.invokestatic 38, 3) := by decide +kernel
theorem dX8_fewestPaints_44 : decode cX8_fewestPaints 44 = .ok (.iload 5, 2) := by decide +kernel
theorem dX8_fewestPaints_46 : decode cX8_fewestPaints 46 = .ok (.if_icmp .ne 17, 3) := by decide +kernel
theorem dX8_fewestPaints_49 : decode cX8_fewestPaints 49 = .ok (.iload 4, 2) := by decide +kernel
theorem dX8_fewestPaints_51 : decode cX8_fewestPaints 51 = .ok (.iload 6, 2) := by decide +kernel
theorem dX8_fewestPaints_53 : decode cX8_fewestPaints 53 = .ok (.iconst (-1), 1) := by decide +kernel
theorem dX8_fewestPaints_54 : decode cX8_fewestPaints 54 = .ok (.ixor, 1) := by decide +kernel
theorem dX8_fewestPaints_55 : decode cX8_fewestPaints 55 = .ok (.iand, 1) := by decide +kernel
theorem dX8_fewestPaints_56 : decode cX8_fewestPaints 56 = .ok (.ifCond .ne 7, 3) := by decide +kernel
theorem dX8_fewestPaints_59 : decode cX8_fewestPaints 59 = .ok (.iconst 1, 1) := by decide +kernel
theorem dX8_fewestPaints_60 : decode cX8_fewestPaints 60 = .ok (.goto 4, 3) := by decide +kernel
theorem dX8_fewestPaints_63 : decode cX8_fewestPaints 63 = .ok (.iconst 0, 1) := by decide +kernel
theorem dX8_fewestPaints_64 : decode cX8_fewestPaints 64 = .ok (.istore 7, 2) := by decide +kernel
theorem dX8_fewestPaints_66 : decode cX8_fewestPaints 66 = .ok (.iload 7, 2) := by decide +kernel
theorem dX8_fewestPaints_68 : decode cX8_fewestPaints 68 = .ok (.ifCond .eq 26, 3) := by decide +kernel
theorem dX8_fewestPaints_71 : decode cX8_fewestPaints 71 = .ok (.aload_n 0, 1) := by decide +kernel
theorem dX8_fewestPaints_72 : decode cX8_fewestPaints 72 = .ok (.iload_n 2, 1) := by decide +kernel
theorem dX8_fewestPaints_73 : decode cX8_fewestPaints 73 = .ok (.sipush 511, 3) := by decide +kernel
theorem dX8_fewestPaints_76 : decode cX8_fewestPaints 76 = .ok (.iload 6, 2) := by decide +kernel
theorem dX8_fewestPaints_78 : decode cX8_fewestPaints 78 = .ok (.invokestatic 43, 3) := by decide +kernel
theorem dX8_fewestPaints_81 : decode cX8_fewestPaints 81 = .ok (.iand, 1) := by decide +kernel
theorem dX8_fewestPaints_82 : decode cX8_fewestPaints 82 = .ok (.iload_n 3, 1) := by decide +kernel
theorem dX8_fewestPaints_83 : decode cX8_fewestPaints 83 = .ok (.iconst 1, 1) := by decide +kernel
theorem dX8_fewestPaints_84 : decode cX8_fewestPaints 84 = .ok (.iconst 0, 1) := by decide +kernel
theorem dX8_fewestPaints_85 : decode cX8_fewestPaints 85 = .ok (.invokestatic 20, 3) := by decide +kernel
theorem dX8_fewestPaints_88 : decode cX8_fewestPaints 88 = .ok (.ifCond .eq 6, 3) := by decide +kernel
theorem dX8_fewestPaints_91 : decode cX8_fewestPaints 91 = .ok (.iload 5, 2) := by decide +kernel
theorem dX8_fewestPaints_93 : decode cX8_fewestPaints 93 = .ok (.ireturn, 1) := by decide +kernel
theorem dX8_fewestPaints_94 : decode cX8_fewestPaints 94 = .ok (.iinc 6 1, 3) := by decide +kernel
theorem dX8_fewestPaints_97 : decode cX8_fewestPaints 97 = .ok (.goto (-67), 3) := by decide +kernel
theorem dX8_fewestPaints_100 : decode cX8_fewestPaints 100 = .ok (.iinc 5 1, 3) := by decide +kernel
theorem dX8_fewestPaints_103 : decode cX8_fewestPaints 103 = .ok (.goto (-82), 3) := by decide +kernel
theorem dX8_fewestPaints_106 : decode cX8_fewestPaints 106 = .ok (.bipush (-4), 2) := by decide +kernel
theorem dX8_fewestPaints_108 : decode cX8_fewestPaints 108 = .ok (.ireturn, 1) := by decide +kernel
def fX8_fewestPaints_64 (F : Nat) (a0_paints : Int32) (a0_shut : Int32) (a0_all : Int32) (a0_fitsAtFirst : Int32) (a0_ruledOut_ : Nat → Int32) (p1 : Int32) (k21 : Int32 → Int32 → Int32 → Int32 → Option (Int32)) (k30 : Int32 → Int32 → Int32 → Int32 → Int32 → Option (Int32)) (x25 : Int32) (x26 : Int32) (x27 : Int32) (x28 : Int32) (x29 : Int32) (s30 : Int32) : Option (Int32) :=
(if s30 = 0 then
(jl_let (x29 + Int32.ofInt (1)) fun v37 =>
(k30 x25 x26 x27 x28 v37))
else
((fX3_inPaints F ((511 : Int32)) x29).bind fun r38 =>
((fX8_fillings F 11 a0_ruledOut_ (x25 &&& r38) x26 ((1 : Int32)) ((0 : Int32))).bind fun r40 =>
(if r40 = 0 then
(jl_let (x29 + Int32.ofInt (1)) fun v43 =>
(k30 x25 x26 x27 x28 v43))
else
(some (x28))))))
def fX8_fewestPaints_63 (F : Nat) (a0_paints : Int32) (a0_shut : Int32) (a0_all : Int32) (a0_fitsAtFirst : Int32) (a0_ruledOut_ : Nat → Int32) (p1 : Int32) (k21 : Int32 → Int32 → Int32 → Int32 → Option (Int32)) (k30 : Int32 → Int32 → Int32 → Int32 → Int32 → Option (Int32)) (x31 : Int32) (x32 : Int32) (x33 : Int32) (x34 : Int32) (x35 : Int32) : Option (Int32) :=
(fX8_fewestPaints_64 F a0_paints a0_shut a0_all a0_fitsAtFirst a0_ruledOut_ p1 k21 k30 x31 x32 x33 x34 x35 ((0 : Int32)))
def bX8_fewestPaints_30 (F : Nat) (a0_paints : Int32) (a0_shut : Int32) (a0_all : Int32) (a0_fitsAtFirst : Int32) (a0_ruledOut_ : Nat → Int32) (p1 : Int32) (k21 : Int32 → Int32 → Int32 → Int32 → Option (Int32)) (k30 : Int32 → Int32 → Int32 → Int32 → Int32 → Option (Int32)) (x12 : Int32) (x13 : Int32) (x14 : Int32) (x15 : Int32) (x16 : Int32) : Option (Int32) :=
((fX3_allPaints a0_paints).bind fun r17 =>
(if r17 < x16 then
(jl_let (x15 + Int32.ofInt (1)) fun v20 =>
(k21 x12 x13 x14 v20))
else
((fJ6_bitCount_0f7a4 x16).bind fun r21 =>
(if r21 = x15 then
(if (x14 &&& (x16 ^^^ ((-1 : Int32)))) = 0 then
(fX8_fewestPaints_64 F a0_paints a0_shut a0_all a0_fitsAtFirst a0_ruledOut_ p1 k21 k30 x12 x13 x14 x15 x16 ((1 : Int32)))
else
(fX8_fewestPaints_63 F a0_paints a0_shut a0_all a0_fitsAtFirst a0_ruledOut_ p1 k21 k30 x12 x13 x14 x15 x16))
else
(fX8_fewestPaints_63 F a0_paints a0_shut a0_all a0_fitsAtFirst a0_ruledOut_ p1 k21 k30 x12 x13 x14 x15 x16)))))
def lX8_fewestPaints_30 (F : Nat) (a0_paints : Int32) (a0_shut : Int32) (a0_all : Int32) (a0_fitsAtFirst : Int32) (a0_ruledOut_ : Nat → Int32) (p1 : Int32) (k21 : Int32 → Int32 → Int32 → Int32 → Option (Int32)) (F2 : Nat) (x12 : Int32) (x13 : Int32) (x14 : Int32) (x15 : Int32) (x16 : Int32) : Option (Int32) := jl_loop5 (bX8_fewestPaints_30 F a0_paints a0_shut a0_all a0_fitsAtFirst a0_ruledOut_ p1 k21) F2 x12 x13 x14 x15 x16
def bX8_fewestPaints_21 (F : Nat) (a0_paints : Int32) (a0_shut : Int32) (a0_all : Int32) (a0_fitsAtFirst : Int32) (a0_ruledOut_ : Nat → Int32) (p1 : Int32)  (k21 : Int32 → Int32 → Int32 → Int32 → Option (Int32)) (x7 : Int32) (x8 : Int32) (x9 : Int32) (x10 : Int32) : Option (Int32) :=
(if ((3 : Int32)) < x10 then
(some ((-4 : Int32)))
else
(lX8_fewestPaints_30 F a0_paints a0_shut a0_all a0_fitsAtFirst a0_ruledOut_ p1 k21 F x7 x8 x9 x10 ((0 : Int32))))
def lX8_fewestPaints_21 (F : Nat) (a0_paints : Int32) (a0_shut : Int32) (a0_all : Int32) (a0_fitsAtFirst : Int32) (a0_ruledOut_ : Nat → Int32) (p1 : Int32)  (F2 : Nat) (x7 : Int32) (x8 : Int32) (x9 : Int32) (x10 : Int32) : Option (Int32) := jl_loop4 (bX8_fewestPaints_21 F a0_paints a0_shut a0_all a0_fitsAtFirst a0_ruledOut_ p1 ) F2 x7 x8 x9 x10
def fX8_fewestPaints (F : Nat) (a0_paints : Int32) (a0_shut : Int32) (a0_all : Int32) (a0_fitsAtFirst : Int32) (a0_ruledOut_ : Nat → Int32) (p1 : Int32) : Option (Int32) :=
((fX3_fitting F a0_fitsAtFirst a0_ruledOut_ p1).bind fun r1 =>
((fX3_bare a0_shut a0_all p1).bind fun r3 =>
((fX8_paintsIn F p1).bind fun r5 =>
(lX8_fewestPaints_21 F a0_paints a0_shut a0_all a0_fitsAtFirst a0_ruledOut_ p1 F r1 r3 r5 ((0 : Int32))))))
def oX8_fewestPaints (D : jv_D) (h_a0 : Nat) (h_a0_ruledOut : Nat) (a0_rows : Int32) (a0_columns : Int32) (a0_paints : Int32) (a0_apart : Int32) (a0_paintsOf0 : Int32) (a0_paintsOf1 : Int32) (a0_old : Int32) (a0_shut : Int32) (a0_all : Int32) (a0_firstColumn : Int32) (a0_fitsAtFirst : Int32) (a0_paintingsOf0 : Int32) (a0_paintingsOf1 : Int32) (a0_ruledOut_ : Nat → Int32) (r : Int32) : va_W := [(h_a0, .inr (2, [.int a0_rows, .int a0_columns, .int a0_paints, .int a0_apart, .int a0_paintsOf0, .int a0_paintsOf1, .int a0_old, .int a0_shut, .int a0_all, .int a0_firstColumn, .int a0_fitsAtFirst, .int a0_paintingsOf0, .int a0_paintingsOf1, .ref h_a0_ruledOut])), (h_a0_ruledOut, jI D 27 a0_ruledOut_)]
set_option maxHeartbeats 40000000 in
set_option maxRecDepth 100000 in
theorem mX8_fewestPaints (l : Launch) (D : jv_D) (F : Nat) (h_a0 : Nat) (h_a0_ruledOut : Nat) (a0_rows : Int32) (a0_columns : Int32) (a0_paints : Int32) (a0_apart : Int32) (a0_paintsOf0 : Int32) (a0_paintsOf1 : Int32) (a0_old : Int32) (a0_shut : Int32) (a0_all : Int32) (a0_firstColumn : Int32) (a0_fitsAtFirst : Int32) (a0_paintingsOf0 : Int32) (a0_paintingsOf1 : Int32) (a0_ruledOut_ : Nat → Int32) (p1 : Int32) (r : Int32) (h : fX8_fewestPaints F a0_paints a0_shut a0_all a0_fitsAtFirst a0_ruledOut_ p1 = some r) : MM l yX8_fewestPaints (jW yX8_fewestPaints cX8_fewestPaints 8 (some .int)) ({ frames := 23, cells := 0, slots := 0, locals := 501 }) D [.ref h_a0, .int p1] [(h_a0, .inr (2, [.int a0_rows, .int a0_columns, .int a0_paints, .int a0_apart, .int a0_paintsOf0, .int a0_paintsOf1, .int a0_old, .int a0_shut, .int a0_all, .int a0_firstColumn, .int a0_fitsAtFirst, .int a0_paintingsOf0, .int a0_paintingsOf1, .ref h_a0_ruledOut])), (h_a0_ruledOut, jI D 27 a0_ruledOut_)] (some (.int r)) (oX8_fewestPaints D h_a0 h_a0_ruledOut a0_rows a0_columns a0_paints a0_apart a0_paintsOf0 a0_paintsOf1 a0_old a0_shut a0_all a0_firstColumn a0_fitsAtFirst a0_paintingsOf0 a0_paintingsOf1 a0_ruledOut_ r) := by
  refine mn_of hpX8_fewestPaints (Nat.le_of_ble_eq_true rfl) ?_
  intro X hXl C E0 hN
  subst hXl
  replace C : JC D X 8 RX8 cX8_fewestPaints ({ frames := 23, cells := 0, slots := 0, locals := 501 }) := C
  have E : JE D X 0 0 (some .int) (fun _ : Unit => (some (.int r))) (fun _ : Unit => (oX8_fewestPaints D h_a0 h_a0_ruledOut a0_rows a0_columns a0_paints a0_apart a0_paintsOf0 a0_paintsOf1 a0_old a0_shut a0_all a0_firstColumn a0_fitsAtFirst a0_paintingsOf0 a0_paintingsOf1 a0_ruledOut_ r)) := E0 0 0 rfl rfl
  clear E0 hN
  show JJ D X 8 0 0 0 [(0, .ref h_a0), (1, .int p1)] [] [(h_a0, .inr (2, [.int a0_rows, .int a0_columns, .int a0_paints, .int a0_apart, .int a0_paintsOf0, .int a0_paintsOf1, .int a0_old, .int a0_shut, .int a0_all, .int a0_firstColumn, .int a0_fitsAtFirst, .int a0_paintingsOf0, .int a0_paintingsOf1, .ref h_a0_ruledOut])), (h_a0_ruledOut, jI D 27 a0_ruledOut_)]
  unfold fX8_fewestPaints at h
  have L21 : ∀ (x7 : Int32) (x8 : Int32) (x9 : Int32) (x10 : Int32), lX8_fewestPaints_21 F a0_paints a0_shut a0_all a0_fitsAtFirst a0_ruledOut_ p1  F x7 x8 x9 x10 = some r → JJ D X 8 0 0 21 [(0, .ref h_a0), (2, .int x7), (3, .int x8), (4, .int x9), (5, .int x10)] [] [(h_a0, .inr (2, [.int a0_rows, .int a0_columns, .int a0_paints, .int a0_apart, .int a0_paintsOf0, .int a0_paintsOf1, .int a0_old, .int a0_shut, .int a0_all, .int a0_firstColumn, .int a0_fitsAtFirst, .int a0_paintingsOf0, .int a0_paintingsOf1, .ref h_a0_ruledOut])), (h_a0_ruledOut, jI D 27 a0_ruledOut_)] := by
    intro x7 x8 x9 x10 h
    refine jl_ind4 (fun x7 x8 x9 x10 => JJ D X 8 0 0 21 [(0, .ref h_a0), (2, .int x7), (3, .int x8), (4, .int x9), (5, .int x10)] [] [(h_a0, .inr (2, [.int a0_rows, .int a0_columns, .int a0_paints, .int a0_apart, .int a0_paintsOf0, .int a0_paintsOf1, .int a0_old, .int a0_shut, .int a0_all, .int a0_firstColumn, .int a0_fitsAtFirst, .int a0_paintingsOf0, .int a0_paintingsOf1, .ref h_a0_ruledOut])), (h_a0_ruledOut, jI D 27 a0_ruledOut_)]) ?_ F x7 x8 x9 x10 h
    clear h x7 x8 x9 x10
    intro k21 i21 x7 x8 x9 x10 h
    replace i21 : ∀ (x7 : Int32) (x8 : Int32) (x9 : Int32) (x10 : Int32), k21 x7 x8 x9 x10 = some r → JJ D X 8 0 0 21 [(0, .ref h_a0), (2, .int x7), (3, .int x8), (4, .int x9), (5, .int x10)] [] [(h_a0, .inr (2, [.int a0_rows, .int a0_columns, .int a0_paints, .int a0_apart, .int a0_paintsOf0, .int a0_paintsOf1, .int a0_old, .int a0_shut, .int a0_all, .int a0_firstColumn, .int a0_fitsAtFirst, .int a0_paintingsOf0, .int a0_paintingsOf1, .ref h_a0_ruledOut])), (h_a0_ruledOut, jI D 27 a0_ruledOut_)] := i21
    show JJ D X 8 0 0 21 [(0, .ref h_a0), (2, .int x7), (3, .int x8), (4, .int x9), (5, .int x10)] [] [(h_a0, .inr (2, [.int a0_rows, .int a0_columns, .int a0_paints, .int a0_apart, .int a0_paintsOf0, .int a0_paintsOf1, .int a0_old, .int a0_shut, .int a0_all, .int a0_firstColumn, .int a0_fitsAtFirst, .int a0_paintingsOf0, .int a0_paintingsOf1, .ref h_a0_ruledOut])), (h_a0_ruledOut, jI D 27 a0_ruledOut_)]
    unfold bX8_fewestPaints_21 at h
    have L30 : ∀ (x12 : Int32) (x13 : Int32) (x14 : Int32) (x15 : Int32) (x16 : Int32), lX8_fewestPaints_30 F a0_paints a0_shut a0_all a0_fitsAtFirst a0_ruledOut_ p1 k21 F x12 x13 x14 x15 x16 = some r → JJ D X 8 0 0 30 [(0, .ref h_a0), (2, .int x12), (3, .int x13), (4, .int x14), (5, .int x15), (6, .int x16)] [] [(h_a0, .inr (2, [.int a0_rows, .int a0_columns, .int a0_paints, .int a0_apart, .int a0_paintsOf0, .int a0_paintsOf1, .int a0_old, .int a0_shut, .int a0_all, .int a0_firstColumn, .int a0_fitsAtFirst, .int a0_paintingsOf0, .int a0_paintingsOf1, .ref h_a0_ruledOut])), (h_a0_ruledOut, jI D 27 a0_ruledOut_)] := by
      intro x12 x13 x14 x15 x16 h
      refine jl_ind5 (fun x12 x13 x14 x15 x16 => JJ D X 8 0 0 30 [(0, .ref h_a0), (2, .int x12), (3, .int x13), (4, .int x14), (5, .int x15), (6, .int x16)] [] [(h_a0, .inr (2, [.int a0_rows, .int a0_columns, .int a0_paints, .int a0_apart, .int a0_paintsOf0, .int a0_paintsOf1, .int a0_old, .int a0_shut, .int a0_all, .int a0_firstColumn, .int a0_fitsAtFirst, .int a0_paintingsOf0, .int a0_paintingsOf1, .ref h_a0_ruledOut])), (h_a0_ruledOut, jI D 27 a0_ruledOut_)]) ?_ F x12 x13 x14 x15 x16 h
      clear h x12 x13 x14 x15 x16
      intro k30 i30 x12 x13 x14 x15 x16 h
      replace i30 : ∀ (x12 : Int32) (x13 : Int32) (x14 : Int32) (x15 : Int32) (x16 : Int32), k30 x12 x13 x14 x15 x16 = some r → JJ D X 8 0 0 30 [(0, .ref h_a0), (2, .int x12), (3, .int x13), (4, .int x14), (5, .int x15), (6, .int x16)] [] [(h_a0, .inr (2, [.int a0_rows, .int a0_columns, .int a0_paints, .int a0_apart, .int a0_paintsOf0, .int a0_paintsOf1, .int a0_old, .int a0_shut, .int a0_all, .int a0_firstColumn, .int a0_fitsAtFirst, .int a0_paintingsOf0, .int a0_paintingsOf1, .ref h_a0_ruledOut])), (h_a0_ruledOut, jI D 27 a0_ruledOut_)] := i30
      show JJ D X 8 0 0 30 [(0, .ref h_a0), (2, .int x12), (3, .int x13), (4, .int x14), (5, .int x15), (6, .int x16)] [] [(h_a0, .inr (2, [.int a0_rows, .int a0_columns, .int a0_paints, .int a0_apart, .int a0_paintsOf0, .int a0_paintsOf1, .int a0_old, .int a0_shut, .int a0_all, .int a0_firstColumn, .int a0_fitsAtFirst, .int a0_paintingsOf0, .int a0_paintingsOf1, .ref h_a0_ruledOut])), (h_a0_ruledOut, jI D 27 a0_ruledOut_)]
      unfold bX8_fewestPaints_30 at h
      have L64 : ∀ (x25 : Int32) (x26 : Int32) (x27 : Int32) (x28 : Int32) (x29 : Int32) (s30 : Int32), fX8_fewestPaints_64 F a0_paints a0_shut a0_all a0_fitsAtFirst a0_ruledOut_ p1 k21 k30 x25 x26 x27 x28 x29 s30 = some r → JJ D X 8 0 0 64 [(0, .ref h_a0), (2, .int x25), (3, .int x26), (4, .int x27), (5, .int x28), (6, .int x29)] [.int s30] [(h_a0, .inr (2, [.int a0_rows, .int a0_columns, .int a0_paints, .int a0_apart, .int a0_paintsOf0, .int a0_paintsOf1, .int a0_old, .int a0_shut, .int a0_all, .int a0_firstColumn, .int a0_fitsAtFirst, .int a0_paintingsOf0, .int a0_paintingsOf1, .ref h_a0_ruledOut])), (h_a0_ruledOut, jI D 27 a0_ruledOut_)] := by
        intro x25 x26 x27 x28 x29 s30 h
        unfold fX8_fewestPaints_64 at h
        refine j_istoreC C dX8_fewestPaints_64 (lv' := [(7, .int s30), (0, .ref h_a0), (2, .int x25), (3, .int x26), (4, .int x27), (5, .int x28), (6, .int x29)]) (by decide) rfl ?_
        refine j_iload C dX8_fewestPaints_66 0 rfl ?_
        refine j_if_eq C (tgt := 94) dX8_fewestPaints_68 (by decide) h (fun c36 h => ?_) (fun c36 h => ?_)
        · refine j_iinc C dX8_fewestPaints_94 6 rfl (lv' := fun v37 => [(6, .int v37), (7, .int s30), (0, .ref h_a0), (2, .int x25), (3, .int x26), (4, .int x27), (5, .int x28)]) (by decide) (fun _ => rfl) h (fun v37 h => ?_)
          refine j_goto C dX8_fewestPaints_97 (tgt := 30) (by decide) ?_
          refine j_sub (lv' := [(0, .ref h_a0), (2, .int x25), (3, .int x26), (4, .int x27), (5, .int x28), (6, .int v37)]) [2, 3, 4, 5, 6, 0] rfl ?_
          exact i30 x25 x26 x27 x28 v37 h
        · refine j_aload_n C dX8_fewestPaints_71 rfl 1 rfl ?_
          refine j_iload_n C dX8_fewestPaints_72 rfl 2 rfl ?_
          refine j_sipush C dX8_fewestPaints_73 (v := (511 : Int32)) (by decide) ?_
          refine j_iload C dX8_fewestPaints_76 6 rfl ?_
          obtain ⟨r38, q39, h⟩ := jl_bind h
          refine j_cSN1 C (mX3_inPaints (jlaunch X) D F ((511 : Int32)) x29 r38 q39) (host := "PaintersAtWall") (by decide +kernel) btX3_inPaints bzX3 bcX3_inPaints hX3_inPaints (rest := [.int x25, .ref h_a0]) rfl (jroom_of rfl) [] [0, 1] [0, 1] (wr := [(h_a0, .inr (2, [.int a0_rows, .int a0_columns, .int a0_paints, .int a0_apart, .int a0_paintsOf0, .int a0_paintsOf1, .int a0_old, .int a0_shut, .int a0_all, .int a0_firstColumn, .int a0_fitsAtFirst, .int a0_paintingsOf0, .int a0_paintingsOf1, .ref h_a0_ruledOut])), (h_a0_ruledOut, jI D 27 a0_ruledOut_)]) (ws2 := [(h_a0, .inr (2, [.int a0_rows, .int a0_columns, .int a0_paints, .int a0_apart, .int a0_paintsOf0, .int a0_paintsOf1, .int a0_old, .int a0_shut, .int a0_all, .int a0_firstColumn, .int a0_fitsAtFirst, .int a0_paintingsOf0, .int a0_paintingsOf1, .ref h_a0_ruledOut])), (h_a0_ruledOut, jI D 27 a0_ruledOut_)]) rfl rfl rfl rfl rfl (Nat.le_of_ble_eq_true rfl) dX8_fewestPaints_78 ?_
          refine j_iand C dX8_fewestPaints_81 ?_
          refine j_iload_n C dX8_fewestPaints_82 rfl 3 rfl ?_
          refine j_iconst C dX8_fewestPaints_83 (v := (1 : Int32)) (by decide) ?_
          refine j_iconst C dX8_fewestPaints_84 (v := (0 : Int32)) (by decide) ?_
          obtain ⟨r40, q41, h⟩ := jl_bind h
          refine j_cS1 C (mX8_fillings (jlaunch X) D F 11 h_a0 h_a0_ruledOut a0_rows a0_columns a0_paints a0_apart a0_paintsOf0 a0_paintsOf1 a0_old a0_shut a0_all a0_firstColumn a0_fitsAtFirst a0_paintingsOf0 a0_paintingsOf1 a0_ruledOut_ (x25 &&& r38) x26 ((1 : Int32)) ((0 : Int32)) r40 q41) bmX8_20 btX8_fillings bzX8 bcX8_fillings hX8_fillings (rest := []) rfl (jroom_of rfl) [0, 1] [] [0, 1] (wr := []) (ws2 := [(h_a0, .inr (2, [.int a0_rows, .int a0_columns, .int a0_paints, .int a0_apart, .int a0_paintsOf0, .int a0_paintsOf1, .int a0_old, .int a0_shut, .int a0_all, .int a0_firstColumn, .int a0_fitsAtFirst, .int a0_paintingsOf0, .int a0_paintingsOf1, .ref h_a0_ruledOut])), (h_a0_ruledOut, jI D 27 a0_ruledOut_)]) rfl rfl rfl rfl rfl (Nat.le_of_ble_eq_true rfl) dX8_fewestPaints_85 ?_
          refine j_if_eq C (tgt := 94) dX8_fewestPaints_88 (by decide) h (fun c42 h => ?_) (fun c42 h => ?_)
          · refine j_iinc C dX8_fewestPaints_94 6 rfl (lv' := fun v43 => [(6, .int v43), (7, .int s30), (0, .ref h_a0), (2, .int x25), (3, .int x26), (4, .int x27), (5, .int x28)]) (by decide) (fun _ => rfl) h (fun v43 h => ?_)
            refine j_goto C dX8_fewestPaints_97 (tgt := 30) (by decide) ?_
            refine j_sub (lv' := [(0, .ref h_a0), (2, .int x25), (3, .int x26), (4, .int x27), (5, .int x28), (6, .int v43)]) [2, 3, 4, 5, 6, 0] rfl ?_
            exact i30 x25 x26 x27 x28 v43 h
          · refine j_iload C dX8_fewestPaints_91 5 rfl ?_
            exact j_iretR C (r := r) (rtf := fun r => (some (.int r))) (wff := fun r => (oX8_fewestPaints D h_a0 h_a0_ruledOut a0_rows a0_columns a0_paints a0_apart a0_paintsOf0 a0_paintsOf1 a0_old a0_shut a0_all a0_firstColumn a0_fitsAtFirst a0_paintingsOf0 a0_paintingsOf1 a0_ruledOut_ r)) E h rfl rfl dX8_fewestPaints_93
      have L63 : ∀ (x31 : Int32) (x32 : Int32) (x33 : Int32) (x34 : Int32) (x35 : Int32), fX8_fewestPaints_63 F a0_paints a0_shut a0_all a0_fitsAtFirst a0_ruledOut_ p1 k21 k30 x31 x32 x33 x34 x35 = some r → JJ D X 8 0 0 63 [(0, .ref h_a0), (2, .int x31), (3, .int x32), (4, .int x33), (5, .int x34), (6, .int x35)] [] [(h_a0, .inr (2, [.int a0_rows, .int a0_columns, .int a0_paints, .int a0_apart, .int a0_paintsOf0, .int a0_paintsOf1, .int a0_old, .int a0_shut, .int a0_all, .int a0_firstColumn, .int a0_fitsAtFirst, .int a0_paintingsOf0, .int a0_paintingsOf1, .ref h_a0_ruledOut])), (h_a0_ruledOut, jI D 27 a0_ruledOut_)] := by
        intro x31 x32 x33 x34 x35 h
        unfold fX8_fewestPaints_63 at h
        refine j_iconst C dX8_fewestPaints_63 (v := (0 : Int32)) (by decide) ?_
        refine j_sub (lv' := [(0, .ref h_a0), (2, .int x31), (3, .int x32), (4, .int x33), (5, .int x34), (6, .int x35)]) [0, 1, 2, 3, 4, 5] rfl ?_
        exact L64 x31 x32 x33 x34 x35 ((0 : Int32)) h
      refine j_iload C dX8_fewestPaints_30 5 rfl ?_
      refine j_aload_n C dX8_fewestPaints_32 rfl 0 rfl ?_
      obtain ⟨r17, q18, h⟩ := jl_bind h
      refine j_cV1 C (mX3_allPaints (jlaunch X) D h_a0 h_a0_ruledOut a0_rows a0_columns a0_paints a0_apart a0_paintsOf0 a0_paintsOf1 a0_old a0_shut a0_all a0_firstColumn a0_fitsAtFirst a0_paintingsOf0 a0_paintingsOf1 r17 q18) bmX8_34 biX3_allPaints bsX3_allPaints bzX3 bcX3_allPaints rfl hX3_allPaints (rest := [.int x16]) rfl (jroom_of rfl) 0 (ci := 2) rfl rfl rfl [0] [1] [1, 0] (wr := [(h_a0_ruledOut, jI D 27 a0_ruledOut_)]) (ws2 := [(h_a0, .inr (2, [.int a0_rows, .int a0_columns, .int a0_paints, .int a0_apart, .int a0_paintsOf0, .int a0_paintsOf1, .int a0_old, .int a0_shut, .int a0_all, .int a0_firstColumn, .int a0_fitsAtFirst, .int a0_paintingsOf0, .int a0_paintingsOf1, .ref h_a0_ruledOut])), (h_a0_ruledOut, jI D 27 a0_ruledOut_)]) rfl rfl rfl rfl rfl (Nat.le_of_ble_eq_true rfl) dX8_fewestPaints_33 ?_
      refine j_icmp_gt C (tgt := 100) dX8_fewestPaints_36 (by decide) h (fun c19 h => ?_) (fun c19 h => ?_)
      · refine j_iinc C dX8_fewestPaints_100 4 rfl (lv' := fun v20 => [(5, .int v20), (0, .ref h_a0), (2, .int x12), (3, .int x13), (4, .int x14), (6, .int x16)]) (by decide) (fun _ => rfl) h (fun v20 h => ?_)
        refine j_goto C dX8_fewestPaints_103 (tgt := 21) (by decide) ?_
        refine j_sub (lv' := [(0, .ref h_a0), (2, .int x12), (3, .int x13), (4, .int x14), (5, .int v20)]) [1, 2, 3, 4, 0] rfl ?_
        exact i21 x12 x13 x14 v20 h
      · refine j_iload C dX8_fewestPaints_39 5 rfl ?_
        obtain ⟨r21, q22, h⟩ := jl_bind h
        refine j_cS1 C (mJ6_bitCount_0f7a4 (jlaunch X) D x16 r21 q22) bmX8_38 btJ6_bitCount_0f7a4 bzJ6 bcJ6_bitCount_0f7a4 hJ6_bitCount_0f7a4 (rest := []) rfl (jroom_of rfl) [] [0, 1] [0, 1] (wr := [(h_a0, .inr (2, [.int a0_rows, .int a0_columns, .int a0_paints, .int a0_apart, .int a0_paintsOf0, .int a0_paintsOf1, .int a0_old, .int a0_shut, .int a0_all, .int a0_firstColumn, .int a0_fitsAtFirst, .int a0_paintingsOf0, .int a0_paintingsOf1, .ref h_a0_ruledOut])), (h_a0_ruledOut, jI D 27 a0_ruledOut_)]) (ws2 := [(h_a0, .inr (2, [.int a0_rows, .int a0_columns, .int a0_paints, .int a0_apart, .int a0_paintsOf0, .int a0_paintsOf1, .int a0_old, .int a0_shut, .int a0_all, .int a0_firstColumn, .int a0_fitsAtFirst, .int a0_paintingsOf0, .int a0_paintingsOf1, .ref h_a0_ruledOut])), (h_a0_ruledOut, jI D 27 a0_ruledOut_)]) rfl rfl rfl rfl rfl (Nat.le_of_ble_eq_true rfl) dX8_fewestPaints_41 ?_
        refine j_iload C dX8_fewestPaints_44 4 rfl ?_
        refine j_icmp_ne C (tgt := 63) dX8_fewestPaints_46 (by decide) h (fun c23 h => ?_) (fun c23 h => ?_)
        · refine j_iload C dX8_fewestPaints_49 3 rfl ?_
          refine j_iload C dX8_fewestPaints_51 5 rfl ?_
          refine j_iconst C dX8_fewestPaints_53 (v := (-1 : Int32)) (by decide) ?_
          refine j_ixor C dX8_fewestPaints_54 ?_
          refine j_iand C dX8_fewestPaints_55 ?_
          refine j_if_ne C (tgt := 63) dX8_fewestPaints_56 (by decide) h (fun c24 h => ?_) (fun c24 h => ?_)
          · refine j_iconst C dX8_fewestPaints_59 (v := (1 : Int32)) (by decide) ?_
            refine j_goto C dX8_fewestPaints_60 (tgt := 64) (by decide) ?_
            refine j_sub (lv' := [(0, .ref h_a0), (2, .int x12), (3, .int x13), (4, .int x14), (5, .int x15), (6, .int x16)]) [0, 1, 2, 3, 4, 5] rfl ?_
            exact L64 x12 x13 x14 x15 x16 ((1 : Int32)) h
          · refine j_sub (lv' := [(0, .ref h_a0), (2, .int x12), (3, .int x13), (4, .int x14), (5, .int x15), (6, .int x16)]) [0, 1, 2, 3, 4, 5] rfl ?_
            exact L63 x12 x13 x14 x15 x16 h
        · refine j_sub (lv' := [(0, .ref h_a0), (2, .int x12), (3, .int x13), (4, .int x14), (5, .int x15), (6, .int x16)]) [0, 1, 2, 3, 4, 5] rfl ?_
          exact L63 x12 x13 x14 x15 x16 h
    refine j_iload C dX8_fewestPaints_21 4 rfl ?_
    refine j_iconst C dX8_fewestPaints_23 (v := (3 : Int32)) (by decide) ?_
    refine j_icmp_gt C (tgt := 106) dX8_fewestPaints_24 (by decide) h (fun c11 h => ?_) (fun c11 h => ?_)
    · refine j_bipush C dX8_fewestPaints_106 (v := (-4 : Int32)) (by decide) ?_
      exact j_iretR C (r := r) (rtf := fun r => (some (.int r))) (wff := fun r => (oX8_fewestPaints D h_a0 h_a0_ruledOut a0_rows a0_columns a0_paints a0_apart a0_paintsOf0 a0_paintsOf1 a0_old a0_shut a0_all a0_firstColumn a0_fitsAtFirst a0_paintingsOf0 a0_paintingsOf1 a0_ruledOut_ r)) E h rfl rfl dX8_fewestPaints_108
    · refine j_iconst C dX8_fewestPaints_27 (v := (0 : Int32)) (by decide) ?_
      refine j_istoreC C dX8_fewestPaints_28 (lv' := [(6, .int ((0 : Int32))), (0, .ref h_a0), (2, .int x7), (3, .int x8), (4, .int x9), (5, .int x10)]) (by decide) rfl ?_
      refine j_sub (lv' := [(0, .ref h_a0), (2, .int x7), (3, .int x8), (4, .int x9), (5, .int x10), (6, .int ((0 : Int32)))]) [1, 2, 3, 4, 5, 0] rfl ?_
      exact L30 x7 x8 x9 x10 ((0 : Int32)) h
  refine j_aload_n C dX8_fewestPaints_0 rfl 0 rfl ?_
  refine j_iload_n C dX8_fewestPaints_1 rfl 1 rfl ?_
  obtain ⟨r1, q2, h⟩ := jl_bind h
  refine j_cV1 C (mX3_fitting (jlaunch X) D F h_a0 h_a0_ruledOut a0_rows a0_columns a0_paints a0_apart a0_paintsOf0 a0_paintsOf1 a0_old a0_shut a0_all a0_firstColumn a0_fitsAtFirst a0_paintingsOf0 a0_paintingsOf1 a0_ruledOut_ p1 r1 q2) bmX8_9 biX3_fitting bsX3_fitting bzX3 bcX3_fitting rfl hX3_fitting (rest := []) rfl (jroom_of rfl) 0 (ci := 2) rfl rfl rfl [0, 1] [] [0, 1] (wr := []) (ws2 := [(h_a0, .inr (2, [.int a0_rows, .int a0_columns, .int a0_paints, .int a0_apart, .int a0_paintsOf0, .int a0_paintsOf1, .int a0_old, .int a0_shut, .int a0_all, .int a0_firstColumn, .int a0_fitsAtFirst, .int a0_paintingsOf0, .int a0_paintingsOf1, .ref h_a0_ruledOut])), (h_a0_ruledOut, jI D 27 a0_ruledOut_)]) rfl rfl rfl rfl rfl (Nat.le_of_ble_eq_true rfl) dX8_fewestPaints_2 ?_
  refine j_istore_nC C dX8_fewestPaints_5 rfl (lv' := [(2, .int r1), (0, .ref h_a0), (1, .int p1)]) (by decide) rfl ?_
  refine j_aload_n C dX8_fewestPaints_6 rfl 1 rfl ?_
  refine j_iload_n C dX8_fewestPaints_7 rfl 2 rfl ?_
  obtain ⟨r3, q4, h⟩ := jl_bind h
  refine j_cV1 C (mX3_bare (jlaunch X) D h_a0 h_a0_ruledOut a0_rows a0_columns a0_paints a0_apart a0_paintsOf0 a0_paintsOf1 a0_old a0_shut a0_all a0_firstColumn a0_fitsAtFirst a0_paintingsOf0 a0_paintingsOf1 p1 r3 q4) bmX8_15 biX3_bare bsX3_bare bzX3 bcX3_bare rfl hX3_bare (rest := []) rfl (jroom_of rfl) 0 (ci := 2) rfl rfl rfl [0] [1] [1, 0] (wr := [(h_a0_ruledOut, jI D 27 a0_ruledOut_)]) (ws2 := [(h_a0, .inr (2, [.int a0_rows, .int a0_columns, .int a0_paints, .int a0_apart, .int a0_paintsOf0, .int a0_paintsOf1, .int a0_old, .int a0_shut, .int a0_all, .int a0_firstColumn, .int a0_fitsAtFirst, .int a0_paintingsOf0, .int a0_paintingsOf1, .ref h_a0_ruledOut])), (h_a0_ruledOut, jI D 27 a0_ruledOut_)]) rfl rfl rfl rfl rfl (Nat.le_of_ble_eq_true rfl) dX8_fewestPaints_8 ?_
  refine j_istore_nC C dX8_fewestPaints_11 rfl (lv' := [(3, .int r3), (2, .int r1), (0, .ref h_a0), (1, .int p1)]) (by decide) rfl ?_
  refine j_iload_n C dX8_fewestPaints_12 rfl 3 rfl ?_
  obtain ⟨r5, q6, h⟩ := jl_bind h
  refine j_cS1 C (mX8_paintsIn (jlaunch X) D F p1 r5 q6) bmX8_31 btX8_paintsIn bzX8 bcX8_paintsIn hX8_paintsIn (rest := []) rfl (jroom_of rfl) [] [0, 1] [0, 1] (wr := [(h_a0, .inr (2, [.int a0_rows, .int a0_columns, .int a0_paints, .int a0_apart, .int a0_paintsOf0, .int a0_paintsOf1, .int a0_old, .int a0_shut, .int a0_all, .int a0_firstColumn, .int a0_fitsAtFirst, .int a0_paintingsOf0, .int a0_paintingsOf1, .ref h_a0_ruledOut])), (h_a0_ruledOut, jI D 27 a0_ruledOut_)]) (ws2 := [(h_a0, .inr (2, [.int a0_rows, .int a0_columns, .int a0_paints, .int a0_apart, .int a0_paintsOf0, .int a0_paintsOf1, .int a0_old, .int a0_shut, .int a0_all, .int a0_firstColumn, .int a0_fitsAtFirst, .int a0_paintingsOf0, .int a0_paintingsOf1, .ref h_a0_ruledOut])), (h_a0_ruledOut, jI D 27 a0_ruledOut_)]) rfl rfl rfl rfl rfl (Nat.le_of_ble_eq_true rfl) dX8_fewestPaints_13 ?_
  refine j_istoreC C dX8_fewestPaints_16 (lv' := [(4, .int r5), (3, .int r3), (2, .int r1), (0, .ref h_a0), (1, .int p1)]) (by decide) rfl ?_
  refine j_iconst C dX8_fewestPaints_18 (v := (0 : Int32)) (by decide) ?_
  refine j_istoreC C dX8_fewestPaints_19 (lv' := [(5, .int ((0 : Int32))), (4, .int r5), (3, .int r3), (2, .int r1), (0, .ref h_a0), (1, .int p1)]) (by decide) rfl ?_
  refine j_sub (lv' := [(0, .ref h_a0), (2, .int r1), (3, .int r3), (4, .int r5), (5, .int ((0 : Int32)))]) [4, 3, 2, 1, 0] rfl ?_
  exact L21 r1 r3 r5 ((0 : Int32)) h
theorem dX8_leastScraped_0 : decode cX8_leastScraped 0 = .ok (.iload_n 1, 1) := by decide +kernel
theorem dX8_leastScraped_1 : decode cX8_leastScraped 1 = .ok (.aload_n 0, 1) := by decide +kernel
theorem dX8_leastScraped_2 : decode cX8_leastScraped 2 = .ok (.getfield 49, 3) := by decide +kernel
theorem dX8_leastScraped_5 : decode cX8_leastScraped 5 = .ok (.iconst (-1), 1) := by decide +kernel
theorem dX8_leastScraped_6 : decode cX8_leastScraped 6 = .ok (.ixor, 1) := by decide +kernel
theorem dX8_leastScraped_7 : decode cX8_leastScraped 7 = .ok (.iand, 1) := by decide +kernel
theorem dX8_leastScraped_8 : decode cX8_leastScraped 8 = .ok (.invokestatic 24, 3) := by decide +kernel
theorem dX8_leastScraped_11 : decode cX8_leastScraped 11 = .ok (.istore_n 2, 1) := by decide +kernel
theorem dX8_leastScraped_12 : decode cX8_leastScraped 12 = .ok (.iconst 0, 1) := by decide +kernel
theorem dX8_leastScraped_13 : decode cX8_leastScraped 13 = .ok (.istore_n 3, 1) := by decide +kernel
theorem dX8_leastScraped_14 : decode cX8_leastScraped 14 = .ok (.iload_n 3, 1) := by decide +kernel
theorem dX8_leastScraped_15 : decode cX8_leastScraped 15 = .ok (.iload_n 2, 1) := by decide +kernel
theorem dX8_leastScraped_16 : decode cX8_leastScraped 16 = .ok (.invokestatic 38, 3) := by decide +kernel
theorem dX8_leastScraped_19 : decode cX8_leastScraped 19 = .ok (.if_icmp .gt 70, 3) := by decide +kernel
theorem dX8_leastScraped_22 : decode cX8_leastScraped 22 = .ok (.iconst 0, 1) := by decide +kernel
theorem dX8_leastScraped_23 : decode cX8_leastScraped 23 = .ok (.istore 4, 2) := by decide +kernel
theorem dX8_leastScraped_25 : decode cX8_leastScraped 25 = .ok (.iload 4, 2) := by decide +kernel
theorem dX8_leastScraped_27 : decode cX8_leastScraped 27 = .ok (.iload_n 2, 1) := by decide +kernel
theorem dX8_leastScraped_28 : decode cX8_leastScraped 28 = .ok (.if_icmp .gt 55, 3) := by decide +kernel
theorem dX8_leastScraped_31 : decode cX8_leastScraped 31 = .ok (.iload 4, 2) := by decide +kernel
theorem dX8_leastScraped_33 : decode cX8_leastScraped 33 = .ok (.invokestatic 38, 3) := by decide +kernel
theorem dX8_leastScraped_36 : decode cX8_leastScraped 36 = .ok (.iload_n 3, 1) := by decide +kernel
theorem dX8_leastScraped_37 : decode cX8_leastScraped 37 = .ok (.if_icmp .ne 16, 3) := by decide +kernel
theorem dX8_leastScraped_40 : decode cX8_leastScraped 40 = .ok (.iload 4, 2) := by decide +kernel
theorem dX8_leastScraped_42 : decode cX8_leastScraped 42 = .ok (.iload_n 2, 1) := by decide +kernel
theorem dX8_leastScraped_43 : decode cX8_leastScraped 43 = .ok (.iconst (-1), 1) := by decide +kernel
theorem dX8_leastScraped_44 : decode cX8_leastScraped 44 = .ok (.ixor, 1) := by decide +kernel
theorem dX8_leastScraped_45 : decode cX8_leastScraped 45 = .ok (.iand, 1) := by decide +kernel
theorem dX8_leastScraped_46 : decode cX8_leastScraped 46 = .ok (.ifCond .ne 7, 3) := by decide +kernel
theorem dX8_leastScraped_49 : decode cX8_leastScraped 49 = .ok (.iconst 1, 1) := by decide +kernel
theorem dX8_leastScraped_50 : decode cX8_leastScraped 50 = .ok (.goto 4, 3) := by decide +kernel
theorem dX8_leastScraped_53 : decode cX8_leastScraped 53 = .ok (.iconst 0, 1) := by decide +kernel
theorem dX8_leastScraped_54 : decode cX8_leastScraped 54 = .ok (.istore 5, 2) := by decide +kernel
theorem dX8_leastScraped_56 : decode cX8_leastScraped 56 = .ok (.iload 5, 2) := by decide +kernel
theorem dX8_leastScraped_58 : decode cX8_leastScraped 58 = .ok (.ifCond .eq 19, 3) := by decide +kernel
theorem dX8_leastScraped_61 : decode cX8_leastScraped 61 = .ok (.aload_n 0, 1) := by decide +kernel
theorem dX8_leastScraped_62 : decode cX8_leastScraped 62 = .ok (.iload_n 1, 1) := by decide +kernel
theorem dX8_leastScraped_63 : decode cX8_leastScraped 63 = .ok (.iload 4, 2) := by decide +kernel
theorem dX8_leastScraped_65 : decode cX8_leastScraped 65 = .ok (.invokestatic 53, 3) := by decide +kernel
theorem dX8_leastScraped_68 : decode cX8_leastScraped 68 = .ok (.invokestatic 56, 3) := by decide +kernel
theorem dX8_leastScraped_71 : decode cX8_leastScraped 71 = .ok (.ifCond .eq 6, 3) := by decide +kernel
theorem dX8_leastScraped_74 : decode cX8_leastScraped 74 = .ok (.iload 4, 2) := by decide +kernel
theorem dX8_leastScraped_76 : decode cX8_leastScraped 76 = .ok (.ireturn, 1) := by decide +kernel
theorem dX8_leastScraped_77 : decode cX8_leastScraped 77 = .ok (.iinc 4 1, 3) := by decide +kernel
theorem dX8_leastScraped_80 : decode cX8_leastScraped 80 = .ok (.goto (-55), 3) := by decide +kernel
theorem dX8_leastScraped_83 : decode cX8_leastScraped 83 = .ok (.iinc 3 1, 3) := by decide +kernel
theorem dX8_leastScraped_86 : decode cX8_leastScraped 86 = .ok (.goto (-72), 3) := by decide +kernel
theorem dX8_leastScraped_89 : decode cX8_leastScraped 89 = .ok (.bipush (-4), 2) := by decide +kernel
theorem dX8_leastScraped_91 : decode cX8_leastScraped 91 = .ok (.ireturn, 1) := by decide +kernel
def fX8_leastScraped_54 (F : Nat) (a0_old : Int32) (a0_shut : Int32) (a0_all : Int32) (a0_fitsAtFirst : Int32) (a0_ruledOut_ : Nat → Int32) (p1 : Int32) (k14 : Int32 → Int32 → Option (Int32)) (k25 : Int32 → Int32 → Int32 → Option (Int32)) (x17 : Int32) (x18 : Int32) (x19 : Int32) (s20 : Int32) : Option (Int32) :=
(if s20 = 0 then
(jl_let (x19 + Int32.ofInt (1)) fun v25 =>
(k25 x17 x18 v25))
else
((fX3_withoutPaint p1 x19).bind fun r26 =>
((fX8_canBeDone F a0_shut a0_all a0_fitsAtFirst a0_ruledOut_ r26).bind fun r28 =>
(if r28 = 0 then
(jl_let (x19 + Int32.ofInt (1)) fun v31 =>
(k25 x17 x18 v31))
else
(some (x19))))))
def fX8_leastScraped_53 (F : Nat) (a0_old : Int32) (a0_shut : Int32) (a0_all : Int32) (a0_fitsAtFirst : Int32) (a0_ruledOut_ : Nat → Int32) (p1 : Int32) (k14 : Int32 → Int32 → Option (Int32)) (k25 : Int32 → Int32 → Int32 → Option (Int32)) (x21 : Int32) (x22 : Int32) (x23 : Int32) : Option (Int32) :=
(fX8_leastScraped_54 F a0_old a0_shut a0_all a0_fitsAtFirst a0_ruledOut_ p1 k14 k25 x21 x22 x23 ((0 : Int32)))
def bX8_leastScraped_25 (F : Nat) (a0_old : Int32) (a0_shut : Int32) (a0_all : Int32) (a0_fitsAtFirst : Int32) (a0_ruledOut_ : Nat → Int32) (p1 : Int32) (k14 : Int32 → Int32 → Option (Int32)) (k25 : Int32 → Int32 → Int32 → Option (Int32)) (x8 : Int32) (x9 : Int32) (x10 : Int32) : Option (Int32) :=
(if x8 < x10 then
(jl_let (x9 + Int32.ofInt (1)) fun v12 =>
(k14 x8 v12))
else
((fJ6_bitCount_0f7a4 x10).bind fun r13 =>
(if r13 = x9 then
(if (x10 &&& (x8 ^^^ ((-1 : Int32)))) = 0 then
(fX8_leastScraped_54 F a0_old a0_shut a0_all a0_fitsAtFirst a0_ruledOut_ p1 k14 k25 x8 x9 x10 ((1 : Int32)))
else
(fX8_leastScraped_53 F a0_old a0_shut a0_all a0_fitsAtFirst a0_ruledOut_ p1 k14 k25 x8 x9 x10))
else
(fX8_leastScraped_53 F a0_old a0_shut a0_all a0_fitsAtFirst a0_ruledOut_ p1 k14 k25 x8 x9 x10))))
def lX8_leastScraped_25 (F : Nat) (a0_old : Int32) (a0_shut : Int32) (a0_all : Int32) (a0_fitsAtFirst : Int32) (a0_ruledOut_ : Nat → Int32) (p1 : Int32) (k14 : Int32 → Int32 → Option (Int32)) (F2 : Nat) (x8 : Int32) (x9 : Int32) (x10 : Int32) : Option (Int32) := jl_loop3 (bX8_leastScraped_25 F a0_old a0_shut a0_all a0_fitsAtFirst a0_ruledOut_ p1 k14) F2 x8 x9 x10
def bX8_leastScraped_14 (F : Nat) (a0_old : Int32) (a0_shut : Int32) (a0_all : Int32) (a0_fitsAtFirst : Int32) (a0_ruledOut_ : Nat → Int32) (p1 : Int32)  (k14 : Int32 → Int32 → Option (Int32)) (x3 : Int32) (x4 : Int32) : Option (Int32) :=
((fJ6_bitCount_0f7a4 x3).bind fun r5 =>
(if r5 < x4 then
(some ((-4 : Int32)))
else
(lX8_leastScraped_25 F a0_old a0_shut a0_all a0_fitsAtFirst a0_ruledOut_ p1 k14 F x3 x4 ((0 : Int32)))))
def lX8_leastScraped_14 (F : Nat) (a0_old : Int32) (a0_shut : Int32) (a0_all : Int32) (a0_fitsAtFirst : Int32) (a0_ruledOut_ : Nat → Int32) (p1 : Int32)  (F2 : Nat) (x3 : Int32) (x4 : Int32) : Option (Int32) := jl_loop2 (bX8_leastScraped_14 F a0_old a0_shut a0_all a0_fitsAtFirst a0_ruledOut_ p1 ) F2 x3 x4
def fX8_leastScraped (F : Nat) (a0_old : Int32) (a0_shut : Int32) (a0_all : Int32) (a0_fitsAtFirst : Int32) (a0_ruledOut_ : Nat → Int32) (p1 : Int32) : Option (Int32) :=
((fX3_painted (p1 &&& (a0_old ^^^ ((-1 : Int32))))).bind fun r1 =>
(lX8_leastScraped_14 F a0_old a0_shut a0_all a0_fitsAtFirst a0_ruledOut_ p1 F r1 ((0 : Int32))))
def oX8_leastScraped (D : jv_D) (h_a0 : Nat) (h_a0_ruledOut : Nat) (a0_rows : Int32) (a0_columns : Int32) (a0_paints : Int32) (a0_apart : Int32) (a0_paintsOf0 : Int32) (a0_paintsOf1 : Int32) (a0_old : Int32) (a0_shut : Int32) (a0_all : Int32) (a0_firstColumn : Int32) (a0_fitsAtFirst : Int32) (a0_paintingsOf0 : Int32) (a0_paintingsOf1 : Int32) (a0_ruledOut_ : Nat → Int32) (r : Int32) : va_W := [(h_a0, .inr (2, [.int a0_rows, .int a0_columns, .int a0_paints, .int a0_apart, .int a0_paintsOf0, .int a0_paintsOf1, .int a0_old, .int a0_shut, .int a0_all, .int a0_firstColumn, .int a0_fitsAtFirst, .int a0_paintingsOf0, .int a0_paintingsOf1, .ref h_a0_ruledOut])), (h_a0_ruledOut, jI D 27 a0_ruledOut_)]
set_option maxHeartbeats 40000000 in
set_option maxRecDepth 100000 in
theorem mX8_leastScraped (l : Launch) (D : jv_D) (F : Nat) (h_a0 : Nat) (h_a0_ruledOut : Nat) (a0_rows : Int32) (a0_columns : Int32) (a0_paints : Int32) (a0_apart : Int32) (a0_paintsOf0 : Int32) (a0_paintsOf1 : Int32) (a0_old : Int32) (a0_shut : Int32) (a0_all : Int32) (a0_firstColumn : Int32) (a0_fitsAtFirst : Int32) (a0_paintingsOf0 : Int32) (a0_paintingsOf1 : Int32) (a0_ruledOut_ : Nat → Int32) (p1 : Int32) (r : Int32) (h : fX8_leastScraped F a0_old a0_shut a0_all a0_fitsAtFirst a0_ruledOut_ p1 = some r) : MM l yX8_leastScraped (jW yX8_leastScraped cX8_leastScraped 6 (some .int)) ({ frames := 24, cells := 0, slots := 0, locals := 522 }) D [.ref h_a0, .int p1] [(h_a0, .inr (2, [.int a0_rows, .int a0_columns, .int a0_paints, .int a0_apart, .int a0_paintsOf0, .int a0_paintsOf1, .int a0_old, .int a0_shut, .int a0_all, .int a0_firstColumn, .int a0_fitsAtFirst, .int a0_paintingsOf0, .int a0_paintingsOf1, .ref h_a0_ruledOut])), (h_a0_ruledOut, jI D 27 a0_ruledOut_)] (some (.int r)) (oX8_leastScraped D h_a0 h_a0_ruledOut a0_rows a0_columns a0_paints a0_apart a0_paintsOf0 a0_paintsOf1 a0_old a0_shut a0_all a0_firstColumn a0_fitsAtFirst a0_paintingsOf0 a0_paintingsOf1 a0_ruledOut_ r) := by
  refine mn_of hpX8_leastScraped (Nat.le_of_ble_eq_true rfl) ?_
  intro X hXl C E0 hN
  subst hXl
  replace C : JC D X 6 RX8 cX8_leastScraped ({ frames := 24, cells := 0, slots := 0, locals := 522 }) := C
  have E : JE D X 0 0 (some .int) (fun _ : Unit => (some (.int r))) (fun _ : Unit => (oX8_leastScraped D h_a0 h_a0_ruledOut a0_rows a0_columns a0_paints a0_apart a0_paintsOf0 a0_paintsOf1 a0_old a0_shut a0_all a0_firstColumn a0_fitsAtFirst a0_paintingsOf0 a0_paintingsOf1 a0_ruledOut_ r)) := E0 0 0 rfl rfl
  clear E0 hN
  show JJ D X 6 0 0 0 [(0, .ref h_a0), (1, .int p1)] [] [(h_a0, .inr (2, [.int a0_rows, .int a0_columns, .int a0_paints, .int a0_apart, .int a0_paintsOf0, .int a0_paintsOf1, .int a0_old, .int a0_shut, .int a0_all, .int a0_firstColumn, .int a0_fitsAtFirst, .int a0_paintingsOf0, .int a0_paintingsOf1, .ref h_a0_ruledOut])), (h_a0_ruledOut, jI D 27 a0_ruledOut_)]
  unfold fX8_leastScraped at h
  have L14 : ∀ (x3 : Int32) (x4 : Int32), lX8_leastScraped_14 F a0_old a0_shut a0_all a0_fitsAtFirst a0_ruledOut_ p1  F x3 x4 = some r → JJ D X 6 0 0 14 [(0, .ref h_a0), (1, .int p1), (2, .int x3), (3, .int x4)] [] [(h_a0, .inr (2, [.int a0_rows, .int a0_columns, .int a0_paints, .int a0_apart, .int a0_paintsOf0, .int a0_paintsOf1, .int a0_old, .int a0_shut, .int a0_all, .int a0_firstColumn, .int a0_fitsAtFirst, .int a0_paintingsOf0, .int a0_paintingsOf1, .ref h_a0_ruledOut])), (h_a0_ruledOut, jI D 27 a0_ruledOut_)] := by
    intro x3 x4 h
    refine jl_ind2 (fun x3 x4 => JJ D X 6 0 0 14 [(0, .ref h_a0), (1, .int p1), (2, .int x3), (3, .int x4)] [] [(h_a0, .inr (2, [.int a0_rows, .int a0_columns, .int a0_paints, .int a0_apart, .int a0_paintsOf0, .int a0_paintsOf1, .int a0_old, .int a0_shut, .int a0_all, .int a0_firstColumn, .int a0_fitsAtFirst, .int a0_paintingsOf0, .int a0_paintingsOf1, .ref h_a0_ruledOut])), (h_a0_ruledOut, jI D 27 a0_ruledOut_)]) ?_ F x3 x4 h
    clear h x3 x4
    intro k14 i14 x3 x4 h
    replace i14 : ∀ (x3 : Int32) (x4 : Int32), k14 x3 x4 = some r → JJ D X 6 0 0 14 [(0, .ref h_a0), (1, .int p1), (2, .int x3), (3, .int x4)] [] [(h_a0, .inr (2, [.int a0_rows, .int a0_columns, .int a0_paints, .int a0_apart, .int a0_paintsOf0, .int a0_paintsOf1, .int a0_old, .int a0_shut, .int a0_all, .int a0_firstColumn, .int a0_fitsAtFirst, .int a0_paintingsOf0, .int a0_paintingsOf1, .ref h_a0_ruledOut])), (h_a0_ruledOut, jI D 27 a0_ruledOut_)] := i14
    show JJ D X 6 0 0 14 [(0, .ref h_a0), (1, .int p1), (2, .int x3), (3, .int x4)] [] [(h_a0, .inr (2, [.int a0_rows, .int a0_columns, .int a0_paints, .int a0_apart, .int a0_paintsOf0, .int a0_paintsOf1, .int a0_old, .int a0_shut, .int a0_all, .int a0_firstColumn, .int a0_fitsAtFirst, .int a0_paintingsOf0, .int a0_paintingsOf1, .ref h_a0_ruledOut])), (h_a0_ruledOut, jI D 27 a0_ruledOut_)]
    unfold bX8_leastScraped_14 at h
    have L25 : ∀ (x8 : Int32) (x9 : Int32) (x10 : Int32), lX8_leastScraped_25 F a0_old a0_shut a0_all a0_fitsAtFirst a0_ruledOut_ p1 k14 F x8 x9 x10 = some r → JJ D X 6 0 0 25 [(0, .ref h_a0), (1, .int p1), (2, .int x8), (3, .int x9), (4, .int x10)] [] [(h_a0, .inr (2, [.int a0_rows, .int a0_columns, .int a0_paints, .int a0_apart, .int a0_paintsOf0, .int a0_paintsOf1, .int a0_old, .int a0_shut, .int a0_all, .int a0_firstColumn, .int a0_fitsAtFirst, .int a0_paintingsOf0, .int a0_paintingsOf1, .ref h_a0_ruledOut])), (h_a0_ruledOut, jI D 27 a0_ruledOut_)] := by
      intro x8 x9 x10 h
      refine jl_ind3 (fun x8 x9 x10 => JJ D X 6 0 0 25 [(0, .ref h_a0), (1, .int p1), (2, .int x8), (3, .int x9), (4, .int x10)] [] [(h_a0, .inr (2, [.int a0_rows, .int a0_columns, .int a0_paints, .int a0_apart, .int a0_paintsOf0, .int a0_paintsOf1, .int a0_old, .int a0_shut, .int a0_all, .int a0_firstColumn, .int a0_fitsAtFirst, .int a0_paintingsOf0, .int a0_paintingsOf1, .ref h_a0_ruledOut])), (h_a0_ruledOut, jI D 27 a0_ruledOut_)]) ?_ F x8 x9 x10 h
      clear h x8 x9 x10
      intro k25 i25 x8 x9 x10 h
      replace i25 : ∀ (x8 : Int32) (x9 : Int32) (x10 : Int32), k25 x8 x9 x10 = some r → JJ D X 6 0 0 25 [(0, .ref h_a0), (1, .int p1), (2, .int x8), (3, .int x9), (4, .int x10)] [] [(h_a0, .inr (2, [.int a0_rows, .int a0_columns, .int a0_paints, .int a0_apart, .int a0_paintsOf0, .int a0_paintsOf1, .int a0_old, .int a0_shut, .int a0_all, .int a0_firstColumn, .int a0_fitsAtFirst, .int a0_paintingsOf0, .int a0_paintingsOf1, .ref h_a0_ruledOut])), (h_a0_ruledOut, jI D 27 a0_ruledOut_)] := i25
      show JJ D X 6 0 0 25 [(0, .ref h_a0), (1, .int p1), (2, .int x8), (3, .int x9), (4, .int x10)] [] [(h_a0, .inr (2, [.int a0_rows, .int a0_columns, .int a0_paints, .int a0_apart, .int a0_paintsOf0, .int a0_paintsOf1, .int a0_old, .int a0_shut, .int a0_all, .int a0_firstColumn, .int a0_fitsAtFirst, .int a0_paintingsOf0, .int a0_paintingsOf1, .ref h_a0_ruledOut])), (h_a0_ruledOut, jI D 27 a0_ruledOut_)]
      unfold bX8_leastScraped_25 at h
      have L54 : ∀ (x17 : Int32) (x18 : Int32) (x19 : Int32) (s20 : Int32), fX8_leastScraped_54 F a0_old a0_shut a0_all a0_fitsAtFirst a0_ruledOut_ p1 k14 k25 x17 x18 x19 s20 = some r → JJ D X 6 0 0 54 [(0, .ref h_a0), (1, .int p1), (2, .int x17), (3, .int x18), (4, .int x19)] [.int s20] [(h_a0, .inr (2, [.int a0_rows, .int a0_columns, .int a0_paints, .int a0_apart, .int a0_paintsOf0, .int a0_paintsOf1, .int a0_old, .int a0_shut, .int a0_all, .int a0_firstColumn, .int a0_fitsAtFirst, .int a0_paintingsOf0, .int a0_paintingsOf1, .ref h_a0_ruledOut])), (h_a0_ruledOut, jI D 27 a0_ruledOut_)] := by
        intro x17 x18 x19 s20 h
        unfold fX8_leastScraped_54 at h
        refine j_istoreC C dX8_leastScraped_54 (lv' := [(5, .int s20), (0, .ref h_a0), (1, .int p1), (2, .int x17), (3, .int x18), (4, .int x19)]) (by decide) rfl ?_
        refine j_iload C dX8_leastScraped_56 0 rfl ?_
        refine j_if_eq C (tgt := 77) dX8_leastScraped_58 (by decide) h (fun c24 h => ?_) (fun c24 h => ?_)
        · refine j_iinc C dX8_leastScraped_77 5 rfl (lv' := fun v25 => [(4, .int v25), (5, .int s20), (0, .ref h_a0), (1, .int p1), (2, .int x17), (3, .int x18)]) (by decide) (fun _ => rfl) h (fun v25 h => ?_)
          refine j_goto C dX8_leastScraped_80 (tgt := 25) (by decide) ?_
          refine j_sub (lv' := [(0, .ref h_a0), (1, .int p1), (2, .int x17), (3, .int x18), (4, .int v25)]) [2, 3, 4, 5, 0] rfl ?_
          exact i25 x17 x18 v25 h
        · refine j_aload_n C dX8_leastScraped_61 rfl 1 rfl ?_
          refine j_iload_n C dX8_leastScraped_62 rfl 2 rfl ?_
          refine j_iload C dX8_leastScraped_63 5 rfl ?_
          obtain ⟨r26, q27, h⟩ := jl_bind h
          refine j_cS1 C (mX3_withoutPaint (jlaunch X) D p1 x19 r26 q27) bmX8_53 btX3_withoutPaint bzX3 bcX3_withoutPaint hX3_withoutPaint (rest := [.ref h_a0]) rfl (jroom_of rfl) [] [0, 1] [0, 1] (wr := [(h_a0, .inr (2, [.int a0_rows, .int a0_columns, .int a0_paints, .int a0_apart, .int a0_paintsOf0, .int a0_paintsOf1, .int a0_old, .int a0_shut, .int a0_all, .int a0_firstColumn, .int a0_fitsAtFirst, .int a0_paintingsOf0, .int a0_paintingsOf1, .ref h_a0_ruledOut])), (h_a0_ruledOut, jI D 27 a0_ruledOut_)]) (ws2 := [(h_a0, .inr (2, [.int a0_rows, .int a0_columns, .int a0_paints, .int a0_apart, .int a0_paintsOf0, .int a0_paintsOf1, .int a0_old, .int a0_shut, .int a0_all, .int a0_firstColumn, .int a0_fitsAtFirst, .int a0_paintingsOf0, .int a0_paintingsOf1, .ref h_a0_ruledOut])), (h_a0_ruledOut, jI D 27 a0_ruledOut_)]) rfl rfl rfl rfl rfl (Nat.le_of_ble_eq_true rfl) dX8_leastScraped_65 ?_
          obtain ⟨r28, q29, h⟩ := jl_bind h
          refine j_cS1 C (mX8_canBeDone (jlaunch X) D F h_a0 h_a0_ruledOut a0_rows a0_columns a0_paints a0_apart a0_paintsOf0 a0_paintsOf1 a0_old a0_shut a0_all a0_firstColumn a0_fitsAtFirst a0_paintingsOf0 a0_paintingsOf1 a0_ruledOut_ r26 r28 q29) bmX8_56 btX8_canBeDone bzX8 bcX8_canBeDone hX8_canBeDone (rest := []) rfl (jroom_of rfl) [0, 1] [] [0, 1] (wr := []) (ws2 := [(h_a0, .inr (2, [.int a0_rows, .int a0_columns, .int a0_paints, .int a0_apart, .int a0_paintsOf0, .int a0_paintsOf1, .int a0_old, .int a0_shut, .int a0_all, .int a0_firstColumn, .int a0_fitsAtFirst, .int a0_paintingsOf0, .int a0_paintingsOf1, .ref h_a0_ruledOut])), (h_a0_ruledOut, jI D 27 a0_ruledOut_)]) rfl rfl rfl rfl rfl (Nat.le_of_ble_eq_true rfl) dX8_leastScraped_68 ?_
          refine j_if_eq C (tgt := 77) dX8_leastScraped_71 (by decide) h (fun c30 h => ?_) (fun c30 h => ?_)
          · refine j_iinc C dX8_leastScraped_77 5 rfl (lv' := fun v31 => [(4, .int v31), (5, .int s20), (0, .ref h_a0), (1, .int p1), (2, .int x17), (3, .int x18)]) (by decide) (fun _ => rfl) h (fun v31 h => ?_)
            refine j_goto C dX8_leastScraped_80 (tgt := 25) (by decide) ?_
            refine j_sub (lv' := [(0, .ref h_a0), (1, .int p1), (2, .int x17), (3, .int x18), (4, .int v31)]) [2, 3, 4, 5, 0] rfl ?_
            exact i25 x17 x18 v31 h
          · refine j_iload C dX8_leastScraped_74 5 rfl ?_
            exact j_iretR C (r := r) (rtf := fun r => (some (.int r))) (wff := fun r => (oX8_leastScraped D h_a0 h_a0_ruledOut a0_rows a0_columns a0_paints a0_apart a0_paintsOf0 a0_paintsOf1 a0_old a0_shut a0_all a0_firstColumn a0_fitsAtFirst a0_paintingsOf0 a0_paintingsOf1 a0_ruledOut_ r)) E h rfl rfl dX8_leastScraped_76
      have L53 : ∀ (x21 : Int32) (x22 : Int32) (x23 : Int32), fX8_leastScraped_53 F a0_old a0_shut a0_all a0_fitsAtFirst a0_ruledOut_ p1 k14 k25 x21 x22 x23 = some r → JJ D X 6 0 0 53 [(0, .ref h_a0), (1, .int p1), (2, .int x21), (3, .int x22), (4, .int x23)] [] [(h_a0, .inr (2, [.int a0_rows, .int a0_columns, .int a0_paints, .int a0_apart, .int a0_paintsOf0, .int a0_paintsOf1, .int a0_old, .int a0_shut, .int a0_all, .int a0_firstColumn, .int a0_fitsAtFirst, .int a0_paintingsOf0, .int a0_paintingsOf1, .ref h_a0_ruledOut])), (h_a0_ruledOut, jI D 27 a0_ruledOut_)] := by
        intro x21 x22 x23 h
        unfold fX8_leastScraped_53 at h
        refine j_iconst C dX8_leastScraped_53 (v := (0 : Int32)) (by decide) ?_
        refine j_sub (lv' := [(0, .ref h_a0), (1, .int p1), (2, .int x21), (3, .int x22), (4, .int x23)]) [0, 1, 2, 3, 4] rfl ?_
        exact L54 x21 x22 x23 ((0 : Int32)) h
      refine j_iload C dX8_leastScraped_25 4 rfl ?_
      refine j_iload_n C dX8_leastScraped_27 rfl 2 rfl ?_
      refine j_icmp_gt C (tgt := 83) dX8_leastScraped_28 (by decide) h (fun c11 h => ?_) (fun c11 h => ?_)
      · refine j_iinc C dX8_leastScraped_83 3 rfl (lv' := fun v12 => [(3, .int v12), (0, .ref h_a0), (1, .int p1), (2, .int x8), (4, .int x10)]) (by decide) (fun _ => rfl) h (fun v12 h => ?_)
        refine j_goto C dX8_leastScraped_86 (tgt := 14) (by decide) ?_
        refine j_sub (lv' := [(0, .ref h_a0), (1, .int p1), (2, .int x8), (3, .int v12)]) [1, 2, 3, 0] rfl ?_
        exact i14 x8 v12 h
      · refine j_iload C dX8_leastScraped_31 4 rfl ?_
        obtain ⟨r13, q14, h⟩ := jl_bind h
        refine j_cS1 C (mJ6_bitCount_0f7a4 (jlaunch X) D x10 r13 q14) bmX8_38 btJ6_bitCount_0f7a4 bzJ6 bcJ6_bitCount_0f7a4 hJ6_bitCount_0f7a4 (rest := []) rfl (jroom_of rfl) [] [0, 1] [0, 1] (wr := [(h_a0, .inr (2, [.int a0_rows, .int a0_columns, .int a0_paints, .int a0_apart, .int a0_paintsOf0, .int a0_paintsOf1, .int a0_old, .int a0_shut, .int a0_all, .int a0_firstColumn, .int a0_fitsAtFirst, .int a0_paintingsOf0, .int a0_paintingsOf1, .ref h_a0_ruledOut])), (h_a0_ruledOut, jI D 27 a0_ruledOut_)]) (ws2 := [(h_a0, .inr (2, [.int a0_rows, .int a0_columns, .int a0_paints, .int a0_apart, .int a0_paintsOf0, .int a0_paintsOf1, .int a0_old, .int a0_shut, .int a0_all, .int a0_firstColumn, .int a0_fitsAtFirst, .int a0_paintingsOf0, .int a0_paintingsOf1, .ref h_a0_ruledOut])), (h_a0_ruledOut, jI D 27 a0_ruledOut_)]) rfl rfl rfl rfl rfl (Nat.le_of_ble_eq_true rfl) dX8_leastScraped_33 ?_
        refine j_iload_n C dX8_leastScraped_36 rfl 3 rfl ?_
        refine j_icmp_ne C (tgt := 53) dX8_leastScraped_37 (by decide) h (fun c15 h => ?_) (fun c15 h => ?_)
        · refine j_iload C dX8_leastScraped_40 4 rfl ?_
          refine j_iload_n C dX8_leastScraped_42 rfl 2 rfl ?_
          refine j_iconst C dX8_leastScraped_43 (v := (-1 : Int32)) (by decide) ?_
          refine j_ixor C dX8_leastScraped_44 ?_
          refine j_iand C dX8_leastScraped_45 ?_
          refine j_if_ne C (tgt := 53) dX8_leastScraped_46 (by decide) h (fun c16 h => ?_) (fun c16 h => ?_)
          · refine j_iconst C dX8_leastScraped_49 (v := (1 : Int32)) (by decide) ?_
            refine j_goto C dX8_leastScraped_50 (tgt := 54) (by decide) ?_
            refine j_sub (lv' := [(0, .ref h_a0), (1, .int p1), (2, .int x8), (3, .int x9), (4, .int x10)]) [0, 1, 2, 3, 4] rfl ?_
            exact L54 x8 x9 x10 ((1 : Int32)) h
          · refine j_sub (lv' := [(0, .ref h_a0), (1, .int p1), (2, .int x8), (3, .int x9), (4, .int x10)]) [0, 1, 2, 3, 4] rfl ?_
            exact L53 x8 x9 x10 h
        · refine j_sub (lv' := [(0, .ref h_a0), (1, .int p1), (2, .int x8), (3, .int x9), (4, .int x10)]) [0, 1, 2, 3, 4] rfl ?_
          exact L53 x8 x9 x10 h
    refine j_iload_n C dX8_leastScraped_14 rfl 3 rfl ?_
    refine j_iload_n C dX8_leastScraped_15 rfl 2 rfl ?_
    obtain ⟨r5, q6, h⟩ := jl_bind h
    refine j_cS1 C (mJ6_bitCount_0f7a4 (jlaunch X) D x3 r5 q6) bmX8_38 btJ6_bitCount_0f7a4 bzJ6 bcJ6_bitCount_0f7a4 hJ6_bitCount_0f7a4 (rest := [.int x4]) rfl (jroom_of rfl) [] [0, 1] [0, 1] (wr := [(h_a0, .inr (2, [.int a0_rows, .int a0_columns, .int a0_paints, .int a0_apart, .int a0_paintsOf0, .int a0_paintsOf1, .int a0_old, .int a0_shut, .int a0_all, .int a0_firstColumn, .int a0_fitsAtFirst, .int a0_paintingsOf0, .int a0_paintingsOf1, .ref h_a0_ruledOut])), (h_a0_ruledOut, jI D 27 a0_ruledOut_)]) (ws2 := [(h_a0, .inr (2, [.int a0_rows, .int a0_columns, .int a0_paints, .int a0_apart, .int a0_paintsOf0, .int a0_paintsOf1, .int a0_old, .int a0_shut, .int a0_all, .int a0_firstColumn, .int a0_fitsAtFirst, .int a0_paintingsOf0, .int a0_paintingsOf1, .ref h_a0_ruledOut])), (h_a0_ruledOut, jI D 27 a0_ruledOut_)]) rfl rfl rfl rfl rfl (Nat.le_of_ble_eq_true rfl) dX8_leastScraped_16 ?_
    refine j_icmp_gt C (tgt := 89) dX8_leastScraped_19 (by decide) h (fun c7 h => ?_) (fun c7 h => ?_)
    · refine j_bipush C dX8_leastScraped_89 (v := (-4 : Int32)) (by decide) ?_
      exact j_iretR C (r := r) (rtf := fun r => (some (.int r))) (wff := fun r => (oX8_leastScraped D h_a0 h_a0_ruledOut a0_rows a0_columns a0_paints a0_apart a0_paintsOf0 a0_paintsOf1 a0_old a0_shut a0_all a0_firstColumn a0_fitsAtFirst a0_paintingsOf0 a0_paintingsOf1 a0_ruledOut_ r)) E h rfl rfl dX8_leastScraped_91
    · refine j_iconst C dX8_leastScraped_22 (v := (0 : Int32)) (by decide) ?_
      refine j_istoreC C dX8_leastScraped_23 (lv' := [(4, .int ((0 : Int32))), (0, .ref h_a0), (1, .int p1), (2, .int x3), (3, .int x4)]) (by decide) rfl ?_
      refine j_sub (lv' := [(0, .ref h_a0), (1, .int p1), (2, .int x3), (3, .int x4), (4, .int ((0 : Int32)))]) [1, 2, 3, 4, 0] rfl ?_
      exact L25 x3 x4 ((0 : Int32)) h
  refine j_iload_n C dX8_leastScraped_0 rfl 1 rfl ?_
  refine j_aload_n C dX8_leastScraped_1 rfl 0 rfl ?_
  refine j_getN C ibX3 (ci := 2) 0 rfl rfl 6 (by decide) (host := "PaintersAtWall") (by decide +kernel) (v := .int a0_old) rfl dX8_leastScraped_2 ?_
  refine j_iconst C dX8_leastScraped_5 (v := (-1 : Int32)) (by decide) ?_
  refine j_ixor C dX8_leastScraped_6 ?_
  refine j_iand C dX8_leastScraped_7 ?_
  obtain ⟨r1, q2, h⟩ := jl_bind h
  refine j_cS1 C (mX3_painted (jlaunch X) D (p1 &&& (a0_old ^^^ ((-1 : Int32)))) r1 q2) bmX8_24 btX3_painted bzX3 bcX3_painted hX3_painted (rest := []) rfl (jroom_of rfl) [] [0, 1] [0, 1] (wr := [(h_a0, .inr (2, [.int a0_rows, .int a0_columns, .int a0_paints, .int a0_apart, .int a0_paintsOf0, .int a0_paintsOf1, .int a0_old, .int a0_shut, .int a0_all, .int a0_firstColumn, .int a0_fitsAtFirst, .int a0_paintingsOf0, .int a0_paintingsOf1, .ref h_a0_ruledOut])), (h_a0_ruledOut, jI D 27 a0_ruledOut_)]) (ws2 := [(h_a0, .inr (2, [.int a0_rows, .int a0_columns, .int a0_paints, .int a0_apart, .int a0_paintsOf0, .int a0_paintsOf1, .int a0_old, .int a0_shut, .int a0_all, .int a0_firstColumn, .int a0_fitsAtFirst, .int a0_paintingsOf0, .int a0_paintingsOf1, .ref h_a0_ruledOut])), (h_a0_ruledOut, jI D 27 a0_ruledOut_)]) rfl rfl rfl rfl rfl (Nat.le_of_ble_eq_true rfl) dX8_leastScraped_8 ?_
  refine j_istore_nC C dX8_leastScraped_11 rfl (lv' := [(2, .int r1), (0, .ref h_a0), (1, .int p1)]) (by decide) rfl ?_
  refine j_iconst C dX8_leastScraped_12 (v := (0 : Int32)) (by decide) ?_
  refine j_istore_nC C dX8_leastScraped_13 rfl (lv' := [(3, .int ((0 : Int32))), (2, .int r1), (0, .ref h_a0), (1, .int p1)]) (by decide) rfl ?_
  refine j_sub (lv' := [(0, .ref h_a0), (1, .int p1), (2, .int r1), (3, .int ((0 : Int32)))]) [2, 3, 1, 0] rfl ?_
  exact L14 r1 ((0 : Int32)) h
theorem dX8_mattering_0 : decode cX8_mattering 0 = .ok (.aload_n 0, 1) := by decide +kernel
theorem dX8_mattering_1 : decode cX8_mattering 1 = .ok (.iload_n 1, 1) := by decide +kernel
theorem dX8_mattering_2 : decode cX8_mattering 2 = .ok (.invokestatic 56, 3) := by decide +kernel
theorem dX8_mattering_5 : decode cX8_mattering 5 = .ok (.ifCond .eq 5, 3) := by decide +kernel
theorem dX8_mattering_8 : decode cX8_mattering 8 = .ok (.iconst 0, 1) := by decide +kernel
theorem dX8_mattering_9 : decode cX8_mattering 9 = .ok (.ireturn, 1) := by decide +kernel
theorem dX8_mattering_10 : decode cX8_mattering 10 = .ok (.iload_n 1, 1) := by decide +kernel
theorem dX8_mattering_11 : decode cX8_mattering 11 = .ok (.aload_n 0, 1) := by decide +kernel
theorem dX8_mattering_12 : decode cX8_mattering 12 = .ok (.getfield 49, 3) := by decide +kernel
theorem dX8_mattering_15 : decode cX8_mattering 15 = .ok (.iconst (-1), 1) := by decide +kernel
theorem dX8_mattering_16 : decode cX8_mattering 16 = .ok (.ixor, 1) := by decide +kernel
theorem dX8_mattering_17 : decode cX8_mattering 17 = .ok (.iand, 1) := by decide +kernel
theorem dX8_mattering_18 : decode cX8_mattering 18 = .ok (.invokestatic 24, 3) := by decide +kernel
theorem dX8_mattering_21 : decode cX8_mattering 21 = .ok (.istore_n 2, 1) := by decide +kernel
theorem dX8_mattering_22 : decode cX8_mattering 22 = .ok (.iconst 0, 1) := by decide +kernel
theorem dX8_mattering_23 : decode cX8_mattering 23 = .ok (.istore_n 3, 1) := by decide +kernel
theorem dX8_mattering_24 : decode cX8_mattering 24 = .ok (.iconst 0, 1) := by decide +kernel
theorem dX8_mattering_25 : decode cX8_mattering 25 = .ok (.istore 4, 2) := by decide +kernel
theorem dX8_mattering_27 : decode cX8_mattering 27 = .ok (.iload 4, 2) := by decide +kernel
theorem dX8_mattering_29 : decode cX8_mattering 29 = .ok (.bipush 9, 2) := by decide +kernel
theorem dX8_mattering_31 : decode cX8_mattering 31 = .ok (.if_icmp .ge 40, 3) := by decide +kernel
theorem dX8_mattering_34 : decode cX8_mattering 34 = .ok (.iconst 1, 1) := by decide +kernel
theorem dX8_mattering_35 : decode cX8_mattering 35 = .ok (.iload 4, 2) := by decide +kernel
theorem dX8_mattering_37 : decode cX8_mattering 37 = .ok (.ishl, 1) := by decide +kernel
theorem dX8_mattering_38 : decode cX8_mattering 38 = .ok (.istore 5, 2) := by decide +kernel
theorem dX8_mattering_40 : decode cX8_mattering 40 = .ok (.iload_n 2, 1) := by decide +kernel
theorem dX8_mattering_41 : decode cX8_mattering 41 = .ok (.iload 5, 2) := by decide +kernel
theorem dX8_mattering_43 : decode cX8_mattering 43 = .ok (.iand, 1) := by decide +kernel
theorem dX8_mattering_44 : decode cX8_mattering 44 = .ok (.ifCond .eq 21, 3) := by decide +kernel
theorem dX8_mattering_47 : decode cX8_mattering 47 = .ok (.aload_n 0, 1) := by decide +kernel
theorem dX8_mattering_48 : decode cX8_mattering 48 = .ok (.iload_n 1, 1) := by decide +kernel
theorem dX8_mattering_49 : decode cX8_mattering 49 = .ok (.iload 5, 2) := by decide +kernel
theorem dX8_mattering_51 : decode cX8_mattering 51 = .ok (.invokestatic 53, 3) := by decide +kernel
theorem dX8_mattering_54 : decode cX8_mattering 54 = .ok (.invokestatic 56, 3) := by decide +kernel
theorem dX8_mattering_57 : decode cX8_mattering 57 = .ok (.ifCond .eq 8, 3) := by decide +kernel
theorem dX8_mattering_60 : decode cX8_mattering 60 = .ok (.iload_n 3, 1) := by decide +kernel
theorem dX8_mattering_61 : decode cX8_mattering 61 = .ok (.iload 5, 2) := by decide +kernel
theorem dX8_mattering_63 : decode cX8_mattering 63 = .ok (.ior, 1) := by decide +kernel
theorem dX8_mattering_64 : decode cX8_mattering 64 = .ok (.istore_n 3, 1) := by decide +kernel
theorem dX8_mattering_65 : decode cX8_mattering 65 = .ok (.iinc 4 1, 3) := by decide +kernel
theorem dX8_mattering_68 : decode cX8_mattering 68 = .ok (.goto (-41), 3) := by decide +kernel
theorem dX8_mattering_71 : decode cX8_mattering 71 = .ok (.iload_n 3, 1) := by decide +kernel
theorem dX8_mattering_72 : decode cX8_mattering 72 = .ok (.ireturn, 1) := by decide +kernel
def bX8_mattering_27 (F : Nat) (a0_old : Int32) (a0_shut : Int32) (a0_all : Int32) (a0_fitsAtFirst : Int32) (a0_ruledOut_ : Nat → Int32) (p1 : Int32)  (k27 : Int32 → Int32 → Int32 → Option (Int32)) (x6 : Int32) (x7 : Int32) (x8 : Int32) : Option (Int32) :=
(if ((9 : Int32)) ≤ x8 then
(some (x7))
else
(jl_let (((1 : Int32)) <<< (x8 &&& 31)) fun v10 =>
(if (x6 &&& v10) = 0 then
(jl_let (x8 + Int32.ofInt (1)) fun v12 =>
(k27 x6 x7 v12))
else
((fX3_withoutPaint p1 v10).bind fun r13 =>
((fX8_canBeDone F a0_shut a0_all a0_fitsAtFirst a0_ruledOut_ r13).bind fun r15 =>
(if r15 = 0 then
(jl_let (x8 + Int32.ofInt (1)) fun v18 =>
(k27 x6 x7 v18))
else
(jl_let (x7 ||| v10) fun v19 =>
(jl_let (x8 + Int32.ofInt (1)) fun v20 =>
(k27 x6 v19 v20)))))))))
def lX8_mattering_27 (F : Nat) (a0_old : Int32) (a0_shut : Int32) (a0_all : Int32) (a0_fitsAtFirst : Int32) (a0_ruledOut_ : Nat → Int32) (p1 : Int32)  (F2 : Nat) (x6 : Int32) (x7 : Int32) (x8 : Int32) : Option (Int32) := jl_loop3 (bX8_mattering_27 F a0_old a0_shut a0_all a0_fitsAtFirst a0_ruledOut_ p1 ) F2 x6 x7 x8
def fX8_mattering (F : Nat) (a0_old : Int32) (a0_shut : Int32) (a0_all : Int32) (a0_fitsAtFirst : Int32) (a0_ruledOut_ : Nat → Int32) (p1 : Int32) : Option (Int32) :=
((fX8_canBeDone F a0_shut a0_all a0_fitsAtFirst a0_ruledOut_ p1).bind fun r1 =>
(if r1 = 0 then
((fX3_painted (p1 &&& (a0_old ^^^ ((-1 : Int32))))).bind fun r4 =>
(lX8_mattering_27 F a0_old a0_shut a0_all a0_fitsAtFirst a0_ruledOut_ p1 F r4 ((0 : Int32)) ((0 : Int32))))
else
(some ((0 : Int32)))))
def oX8_mattering (D : jv_D) (h_a0 : Nat) (h_a0_ruledOut : Nat) (a0_rows : Int32) (a0_columns : Int32) (a0_paints : Int32) (a0_apart : Int32) (a0_paintsOf0 : Int32) (a0_paintsOf1 : Int32) (a0_old : Int32) (a0_shut : Int32) (a0_all : Int32) (a0_firstColumn : Int32) (a0_fitsAtFirst : Int32) (a0_paintingsOf0 : Int32) (a0_paintingsOf1 : Int32) (a0_ruledOut_ : Nat → Int32) (r : Int32) : va_W := [(h_a0, .inr (2, [.int a0_rows, .int a0_columns, .int a0_paints, .int a0_apart, .int a0_paintsOf0, .int a0_paintsOf1, .int a0_old, .int a0_shut, .int a0_all, .int a0_firstColumn, .int a0_fitsAtFirst, .int a0_paintingsOf0, .int a0_paintingsOf1, .ref h_a0_ruledOut])), (h_a0_ruledOut, jI D 27 a0_ruledOut_)]
set_option maxHeartbeats 40000000 in
set_option maxRecDepth 100000 in
theorem mX8_mattering (l : Launch) (D : jv_D) (F : Nat) (h_a0 : Nat) (h_a0_ruledOut : Nat) (a0_rows : Int32) (a0_columns : Int32) (a0_paints : Int32) (a0_apart : Int32) (a0_paintsOf0 : Int32) (a0_paintsOf1 : Int32) (a0_old : Int32) (a0_shut : Int32) (a0_all : Int32) (a0_firstColumn : Int32) (a0_fitsAtFirst : Int32) (a0_paintingsOf0 : Int32) (a0_paintingsOf1 : Int32) (a0_ruledOut_ : Nat → Int32) (p1 : Int32) (r : Int32) (h : fX8_mattering F a0_old a0_shut a0_all a0_fitsAtFirst a0_ruledOut_ p1 = some r) : MM l yX8_mattering (jW yX8_mattering cX8_mattering 6 (some .int)) ({ frames := 24, cells := 0, slots := 0, locals := 522 }) D [.ref h_a0, .int p1] [(h_a0, .inr (2, [.int a0_rows, .int a0_columns, .int a0_paints, .int a0_apart, .int a0_paintsOf0, .int a0_paintsOf1, .int a0_old, .int a0_shut, .int a0_all, .int a0_firstColumn, .int a0_fitsAtFirst, .int a0_paintingsOf0, .int a0_paintingsOf1, .ref h_a0_ruledOut])), (h_a0_ruledOut, jI D 27 a0_ruledOut_)] (some (.int r)) (oX8_mattering D h_a0 h_a0_ruledOut a0_rows a0_columns a0_paints a0_apart a0_paintsOf0 a0_paintsOf1 a0_old a0_shut a0_all a0_firstColumn a0_fitsAtFirst a0_paintingsOf0 a0_paintingsOf1 a0_ruledOut_ r) := by
  refine mn_of hpX8_mattering (Nat.le_of_ble_eq_true rfl) ?_
  intro X hXl C E0 hN
  subst hXl
  replace C : JC D X 6 RX8 cX8_mattering ({ frames := 24, cells := 0, slots := 0, locals := 522 }) := C
  have E : JE D X 0 0 (some .int) (fun _ : Unit => (some (.int r))) (fun _ : Unit => (oX8_mattering D h_a0 h_a0_ruledOut a0_rows a0_columns a0_paints a0_apart a0_paintsOf0 a0_paintsOf1 a0_old a0_shut a0_all a0_firstColumn a0_fitsAtFirst a0_paintingsOf0 a0_paintingsOf1 a0_ruledOut_ r)) := E0 0 0 rfl rfl
  clear E0 hN
  show JJ D X 6 0 0 0 [(0, .ref h_a0), (1, .int p1)] [] [(h_a0, .inr (2, [.int a0_rows, .int a0_columns, .int a0_paints, .int a0_apart, .int a0_paintsOf0, .int a0_paintsOf1, .int a0_old, .int a0_shut, .int a0_all, .int a0_firstColumn, .int a0_fitsAtFirst, .int a0_paintingsOf0, .int a0_paintingsOf1, .ref h_a0_ruledOut])), (h_a0_ruledOut, jI D 27 a0_ruledOut_)]
  unfold fX8_mattering at h
  have L27 : ∀ (x6 : Int32) (x7 : Int32) (x8 : Int32), lX8_mattering_27 F a0_old a0_shut a0_all a0_fitsAtFirst a0_ruledOut_ p1  F x6 x7 x8 = some r → JJ D X 6 0 0 27 [(0, .ref h_a0), (1, .int p1), (2, .int x6), (3, .int x7), (4, .int x8)] [] [(h_a0, .inr (2, [.int a0_rows, .int a0_columns, .int a0_paints, .int a0_apart, .int a0_paintsOf0, .int a0_paintsOf1, .int a0_old, .int a0_shut, .int a0_all, .int a0_firstColumn, .int a0_fitsAtFirst, .int a0_paintingsOf0, .int a0_paintingsOf1, .ref h_a0_ruledOut])), (h_a0_ruledOut, jI D 27 a0_ruledOut_)] := by
    intro x6 x7 x8 h
    refine jl_ind3 (fun x6 x7 x8 => JJ D X 6 0 0 27 [(0, .ref h_a0), (1, .int p1), (2, .int x6), (3, .int x7), (4, .int x8)] [] [(h_a0, .inr (2, [.int a0_rows, .int a0_columns, .int a0_paints, .int a0_apart, .int a0_paintsOf0, .int a0_paintsOf1, .int a0_old, .int a0_shut, .int a0_all, .int a0_firstColumn, .int a0_fitsAtFirst, .int a0_paintingsOf0, .int a0_paintingsOf1, .ref h_a0_ruledOut])), (h_a0_ruledOut, jI D 27 a0_ruledOut_)]) ?_ F x6 x7 x8 h
    clear h x6 x7 x8
    intro k27 i27 x6 x7 x8 h
    replace i27 : ∀ (x6 : Int32) (x7 : Int32) (x8 : Int32), k27 x6 x7 x8 = some r → JJ D X 6 0 0 27 [(0, .ref h_a0), (1, .int p1), (2, .int x6), (3, .int x7), (4, .int x8)] [] [(h_a0, .inr (2, [.int a0_rows, .int a0_columns, .int a0_paints, .int a0_apart, .int a0_paintsOf0, .int a0_paintsOf1, .int a0_old, .int a0_shut, .int a0_all, .int a0_firstColumn, .int a0_fitsAtFirst, .int a0_paintingsOf0, .int a0_paintingsOf1, .ref h_a0_ruledOut])), (h_a0_ruledOut, jI D 27 a0_ruledOut_)] := i27
    show JJ D X 6 0 0 27 [(0, .ref h_a0), (1, .int p1), (2, .int x6), (3, .int x7), (4, .int x8)] [] [(h_a0, .inr (2, [.int a0_rows, .int a0_columns, .int a0_paints, .int a0_apart, .int a0_paintsOf0, .int a0_paintsOf1, .int a0_old, .int a0_shut, .int a0_all, .int a0_firstColumn, .int a0_fitsAtFirst, .int a0_paintingsOf0, .int a0_paintingsOf1, .ref h_a0_ruledOut])), (h_a0_ruledOut, jI D 27 a0_ruledOut_)]
    unfold bX8_mattering_27 at h
    refine j_iload C dX8_mattering_27 4 rfl ?_
    refine j_bipush C dX8_mattering_29 (v := (9 : Int32)) (by decide) ?_
    refine j_icmp_ge C (tgt := 71) dX8_mattering_31 (by decide) h (fun c9 h => ?_) (fun c9 h => ?_)
    · refine j_iload_n C dX8_mattering_71 rfl 3 rfl ?_
      exact j_iretR C (r := r) (rtf := fun r => (some (.int r))) (wff := fun r => (oX8_mattering D h_a0 h_a0_ruledOut a0_rows a0_columns a0_paints a0_apart a0_paintsOf0 a0_paintsOf1 a0_old a0_shut a0_all a0_firstColumn a0_fitsAtFirst a0_paintingsOf0 a0_paintingsOf1 a0_ruledOut_ r)) E h rfl rfl dX8_mattering_72
    · refine j_iconst C dX8_mattering_34 (v := (1 : Int32)) (by decide) ?_
      refine j_iload C dX8_mattering_35 4 rfl ?_
      refine j_ishl C dX8_mattering_37 ?_
      refine j_istore C dX8_mattering_38 (lv' := fun v10 => [(5, .int v10), (0, .ref h_a0), (1, .int p1), (2, .int x6), (3, .int x7), (4, .int x8)]) (by decide) (fun _ => rfl) h (fun v10 h => ?_)
      refine j_iload_n C dX8_mattering_40 rfl 3 rfl ?_
      refine j_iload C dX8_mattering_41 0 rfl ?_
      refine j_iand C dX8_mattering_43 ?_
      refine j_if_eq C (tgt := 65) dX8_mattering_44 (by decide) h (fun c11 h => ?_) (fun c11 h => ?_)
      · refine j_iinc C dX8_mattering_65 5 rfl (lv' := fun v12 => [(4, .int v12), (5, .int v10), (0, .ref h_a0), (1, .int p1), (2, .int x6), (3, .int x7)]) (by decide) (fun _ => rfl) h (fun v12 h => ?_)
        refine j_goto C dX8_mattering_68 (tgt := 27) (by decide) ?_
        refine j_sub (lv' := [(0, .ref h_a0), (1, .int p1), (2, .int x6), (3, .int x7), (4, .int v12)]) [2, 3, 4, 5, 0] rfl ?_
        exact i27 x6 x7 v12 h
      · refine j_aload_n C dX8_mattering_47 rfl 1 rfl ?_
        refine j_iload_n C dX8_mattering_48 rfl 2 rfl ?_
        refine j_iload C dX8_mattering_49 0 rfl ?_
        obtain ⟨r13, q14, h⟩ := jl_bind h
        refine j_cS1 C (mX3_withoutPaint (jlaunch X) D p1 v10 r13 q14) bmX8_53 btX3_withoutPaint bzX3 bcX3_withoutPaint hX3_withoutPaint (rest := [.ref h_a0]) rfl (jroom_of rfl) [] [0, 1] [0, 1] (wr := [(h_a0, .inr (2, [.int a0_rows, .int a0_columns, .int a0_paints, .int a0_apart, .int a0_paintsOf0, .int a0_paintsOf1, .int a0_old, .int a0_shut, .int a0_all, .int a0_firstColumn, .int a0_fitsAtFirst, .int a0_paintingsOf0, .int a0_paintingsOf1, .ref h_a0_ruledOut])), (h_a0_ruledOut, jI D 27 a0_ruledOut_)]) (ws2 := [(h_a0, .inr (2, [.int a0_rows, .int a0_columns, .int a0_paints, .int a0_apart, .int a0_paintsOf0, .int a0_paintsOf1, .int a0_old, .int a0_shut, .int a0_all, .int a0_firstColumn, .int a0_fitsAtFirst, .int a0_paintingsOf0, .int a0_paintingsOf1, .ref h_a0_ruledOut])), (h_a0_ruledOut, jI D 27 a0_ruledOut_)]) rfl rfl rfl rfl rfl (Nat.le_of_ble_eq_true rfl) dX8_mattering_51 ?_
        obtain ⟨r15, q16, h⟩ := jl_bind h
        refine j_cS1 C (mX8_canBeDone (jlaunch X) D F h_a0 h_a0_ruledOut a0_rows a0_columns a0_paints a0_apart a0_paintsOf0 a0_paintsOf1 a0_old a0_shut a0_all a0_firstColumn a0_fitsAtFirst a0_paintingsOf0 a0_paintingsOf1 a0_ruledOut_ r13 r15 q16) bmX8_56 btX8_canBeDone bzX8 bcX8_canBeDone hX8_canBeDone (rest := []) rfl (jroom_of rfl) [0, 1] [] [0, 1] (wr := []) (ws2 := [(h_a0, .inr (2, [.int a0_rows, .int a0_columns, .int a0_paints, .int a0_apart, .int a0_paintsOf0, .int a0_paintsOf1, .int a0_old, .int a0_shut, .int a0_all, .int a0_firstColumn, .int a0_fitsAtFirst, .int a0_paintingsOf0, .int a0_paintingsOf1, .ref h_a0_ruledOut])), (h_a0_ruledOut, jI D 27 a0_ruledOut_)]) rfl rfl rfl rfl rfl (Nat.le_of_ble_eq_true rfl) dX8_mattering_54 ?_
        refine j_if_eq C (tgt := 65) dX8_mattering_57 (by decide) h (fun c17 h => ?_) (fun c17 h => ?_)
        · refine j_iinc C dX8_mattering_65 5 rfl (lv' := fun v18 => [(4, .int v18), (5, .int v10), (0, .ref h_a0), (1, .int p1), (2, .int x6), (3, .int x7)]) (by decide) (fun _ => rfl) h (fun v18 h => ?_)
          refine j_goto C dX8_mattering_68 (tgt := 27) (by decide) ?_
          refine j_sub (lv' := [(0, .ref h_a0), (1, .int p1), (2, .int x6), (3, .int x7), (4, .int v18)]) [2, 3, 4, 5, 0] rfl ?_
          exact i27 x6 x7 v18 h
        · refine j_iload_n C dX8_mattering_60 rfl 4 rfl ?_
          refine j_iload C dX8_mattering_61 0 rfl ?_
          refine j_ior C dX8_mattering_63 ?_
          refine j_istore_n C dX8_mattering_64 rfl (lv' := fun v19 => [(3, .int v19), (5, .int v10), (0, .ref h_a0), (1, .int p1), (2, .int x6), (4, .int x8)]) (by decide) (fun _ => rfl) h (fun v19 h => ?_)
          refine j_iinc C dX8_mattering_65 5 rfl (lv' := fun v20 => [(4, .int v20), (3, .int v19), (5, .int v10), (0, .ref h_a0), (1, .int p1), (2, .int x6)]) (by decide) (fun _ => rfl) h (fun v20 h => ?_)
          refine j_goto C dX8_mattering_68 (tgt := 27) (by decide) ?_
          refine j_sub (lv' := [(0, .ref h_a0), (1, .int p1), (2, .int x6), (3, .int v19), (4, .int v20)]) [3, 4, 5, 1, 0] rfl ?_
          exact i27 x6 v19 v20 h
  refine j_aload_n C dX8_mattering_0 rfl 0 rfl ?_
  refine j_iload_n C dX8_mattering_1 rfl 1 rfl ?_
  obtain ⟨r1, q2, h⟩ := jl_bind h
  refine j_cS1 C (mX8_canBeDone (jlaunch X) D F h_a0 h_a0_ruledOut a0_rows a0_columns a0_paints a0_apart a0_paintsOf0 a0_paintsOf1 a0_old a0_shut a0_all a0_firstColumn a0_fitsAtFirst a0_paintingsOf0 a0_paintingsOf1 a0_ruledOut_ p1 r1 q2) bmX8_56 btX8_canBeDone bzX8 bcX8_canBeDone hX8_canBeDone (rest := []) rfl (jroom_of rfl) [0, 1] [] [0, 1] (wr := []) (ws2 := [(h_a0, .inr (2, [.int a0_rows, .int a0_columns, .int a0_paints, .int a0_apart, .int a0_paintsOf0, .int a0_paintsOf1, .int a0_old, .int a0_shut, .int a0_all, .int a0_firstColumn, .int a0_fitsAtFirst, .int a0_paintingsOf0, .int a0_paintingsOf1, .ref h_a0_ruledOut])), (h_a0_ruledOut, jI D 27 a0_ruledOut_)]) rfl rfl rfl rfl rfl (Nat.le_of_ble_eq_true rfl) dX8_mattering_2 ?_
  refine j_if_eq C (tgt := 10) dX8_mattering_5 (by decide) h (fun c3 h => ?_) (fun c3 h => ?_)
  · refine j_iload_n C dX8_mattering_10 rfl 1 rfl ?_
    refine j_aload_n C dX8_mattering_11 rfl 0 rfl ?_
    refine j_getN C ibX3 (ci := 2) 0 rfl rfl 6 (by decide) (host := "PaintersAtWall") (by decide +kernel) (v := .int a0_old) rfl dX8_mattering_12 ?_
    refine j_iconst C dX8_mattering_15 (v := (-1 : Int32)) (by decide) ?_
    refine j_ixor C dX8_mattering_16 ?_
    refine j_iand C dX8_mattering_17 ?_
    obtain ⟨r4, q5, h⟩ := jl_bind h
    refine j_cS1 C (mX3_painted (jlaunch X) D (p1 &&& (a0_old ^^^ ((-1 : Int32)))) r4 q5) bmX8_24 btX3_painted bzX3 bcX3_painted hX3_painted (rest := []) rfl (jroom_of rfl) [] [0, 1] [0, 1] (wr := [(h_a0, .inr (2, [.int a0_rows, .int a0_columns, .int a0_paints, .int a0_apart, .int a0_paintsOf0, .int a0_paintsOf1, .int a0_old, .int a0_shut, .int a0_all, .int a0_firstColumn, .int a0_fitsAtFirst, .int a0_paintingsOf0, .int a0_paintingsOf1, .ref h_a0_ruledOut])), (h_a0_ruledOut, jI D 27 a0_ruledOut_)]) (ws2 := [(h_a0, .inr (2, [.int a0_rows, .int a0_columns, .int a0_paints, .int a0_apart, .int a0_paintsOf0, .int a0_paintsOf1, .int a0_old, .int a0_shut, .int a0_all, .int a0_firstColumn, .int a0_fitsAtFirst, .int a0_paintingsOf0, .int a0_paintingsOf1, .ref h_a0_ruledOut])), (h_a0_ruledOut, jI D 27 a0_ruledOut_)]) rfl rfl rfl rfl rfl (Nat.le_of_ble_eq_true rfl) dX8_mattering_18 ?_
    refine j_istore_nC C dX8_mattering_21 rfl (lv' := [(2, .int r4), (0, .ref h_a0), (1, .int p1)]) (by decide) rfl ?_
    refine j_iconst C dX8_mattering_22 (v := (0 : Int32)) (by decide) ?_
    refine j_istore_nC C dX8_mattering_23 rfl (lv' := [(3, .int ((0 : Int32))), (2, .int r4), (0, .ref h_a0), (1, .int p1)]) (by decide) rfl ?_
    refine j_iconst C dX8_mattering_24 (v := (0 : Int32)) (by decide) ?_
    refine j_istoreC C dX8_mattering_25 (lv' := [(4, .int ((0 : Int32))), (3, .int ((0 : Int32))), (2, .int r4), (0, .ref h_a0), (1, .int p1)]) (by decide) rfl ?_
    refine j_sub (lv' := [(0, .ref h_a0), (1, .int p1), (2, .int r4), (3, .int ((0 : Int32))), (4, .int ((0 : Int32)))]) [3, 4, 2, 1, 0] rfl ?_
    exact L27 r4 ((0 : Int32)) ((0 : Int32)) h
  · refine j_iconst C dX8_mattering_8 (v := (0 : Int32)) (by decide) ?_
    exact j_iretR C (r := r) (rtf := fun r => (some (.int r))) (wff := fun r => (oX8_mattering D h_a0 h_a0_ruledOut a0_rows a0_columns a0_paints a0_apart a0_paintsOf0 a0_paintsOf1 a0_old a0_shut a0_all a0_firstColumn a0_fitsAtFirst a0_paintingsOf0 a0_paintingsOf1 a0_ruledOut_ r)) E h rfl rfl dX8_mattering_9
