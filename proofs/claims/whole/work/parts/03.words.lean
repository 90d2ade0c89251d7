def BIG : List Cond := lw_tbl.filter goodWord
theorem big_in {w : Cond} (h : w ∈ BIG) : w ∈ lw_tbl := (List.mem_filter.mp h).1
theorem big_good {w : Cond} (h : w ∈ BIG) : goodWord w = true := (List.mem_filter.mp h).2
abbrev jW (y : MethodName) (cc : ByteArray) (maxL : Nat) (ret : Option FieldType) : List Cond := .code y cc maxL ret :: BIG
theorem bw_t {w : Cond} (h : w ∈ tables_1) (g : goodWord w = true) : w ∈ BIG := List.mem_filter.mpr ⟨List.mem_append_right _ h, g⟩
theorem bw0 {i : Nat} {w : Cond} (h : (k2_sels lw_privs)[i]? = some w) (g : goodWord w = true) : w ∈ BIG := List.mem_filter.mpr ⟨List.mem_append_left _ (List.mem_of_getElem? h), g⟩
theorem bw1 {i : Nat} {w : Cond} (h : tables_1_1[i]? = some w) (g : goodWord w = true) : w ∈ BIG := bw_t (List.mem_append_left _ (List.mem_of_getElem? h)) g
theorem bw2 {i : Nat} {w : Cond} (h : tables_1_2[i]? = some w) (g : goodWord w = true) : w ∈ BIG := bw_t (List.mem_append_right _ (List.mem_append_left _ (List.mem_of_getElem? h))) g
theorem bw3 {i : Nat} {w : Cond} (h : tables_1_3[i]? = some w) (g : goodWord w = true) : w ∈ BIG := bw_t (List.mem_append_right _ (List.mem_append_right _ (List.mem_append_left _ (List.mem_of_getElem? h)))) g
theorem bw4 {i : Nat} {w : Cond} (h : tables_1_4[i]? = some w) (g : goodWord w = true) : w ∈ BIG := bw_t (List.mem_append_right _ (List.mem_append_right _ (List.mem_append_right _ (List.mem_append_left _ (List.mem_of_getElem? h))))) g
theorem bw5 {i : Nat} {w : Cond} (h : tables_1_5[i]? = some w) (g : goodWord w = true) : w ∈ BIG := bw_t (List.mem_append_right _ (List.mem_append_right _ (List.mem_append_right _ (List.mem_append_right _ (List.mem_of_getElem? h))))) g
theorem bw_all {ws : List Cond} (ps : List Nat) (h : ws.map some = ps.map (fun i => tables_1[i]?)) (g : ws.all goodWord = true) : ∀ w ∈ ws, w ∈ BIG := by
  intro w hw
  have h1 : some w ∈ ps.map (fun i => tables_1[i]?) := by rw [← h]; exact List.mem_map.mpr ⟨w, hw, rfl⟩
  obtain ⟨i, -, hi⟩ := List.mem_map.mp h1
  exact bw_t (List.mem_of_getElem? hi) (List.all_eq_true.mp g w hw)
theorem jg_self : GoodIn BIG BIG := fun w h => ⟨h, good_of_word (big_good h)⟩
theorem jg_of {ws : List Cond} (h : ∀ w ∈ ws, w ∈ BIG) : GoodIn BIG ws := fun w hw => jg_self w (h w hw)
theorem jg_W {y : MethodName} {cc : ByteArray} {maxL : Nat} {ret : Option FieldType} (h : Cond.code y cc maxL ret ∈ BIG) : ∀ w ∈ jW y cc maxL ret, w ∈ BIG := List.forall_mem_cons.mpr ⟨h, fun _ h => h⟩
theorem jg_V {own Cn : String} {index : Nat} {y : MethodName} {cc : ByteArray} {maxL : Nat} {ret : Option FieldType} (h1 : Cond.methodLink own index y ∈ BIG) (h2 : Cond.instanceMethod y ∈ BIG) (h3 : Cond.selects Cn y y ∈ BIG) (h4 : Cond.initialized Cn ∈ BIG) (h5 : Cond.code y cc maxL ret ∈ BIG) : GoodIn BIG (wsV own index Cn y (jW y cc maxL ret)) := by
  refine jg_of ?_
  intro w hw
  rcases List.mem_append.mp hw with h | h
  · simp only [List.mem_cons, List.not_mem_nil, or_false] at h
    rcases h with rfl | rfl | rfl | rfl <;> assumption
  · exact jg_W h5 w h
theorem jg_S {own : String} {index : Nat} {y : MethodName} {cc : ByteArray} {maxL : Nat} {ret : Option FieldType} (h1 : Cond.methodLink own index y ∈ BIG) (h2 : Cond.static y ∈ BIG) (h4 : Cond.initialized y.cls ∈ BIG) (h5 : Cond.code y cc maxL ret ∈ BIG) : GoodIn BIG (va_wsS own index y (jW y cc maxL ret)) := by
  refine jg_of ?_
  intro w hw
  rcases List.mem_append.mp hw with h | h
  · simp only [List.mem_cons, List.not_mem_nil, or_false] at h
    rcases h with rfl | rfl | rfl <;> assumption
  · exact jg_W h5 w h

def jfn : List (String × Nat × String × String × String × String) := [(RX9, 102, "PaintersAtWall$Wall", "worn", "I", "PaintersAtWall"), (RX9, 152, "PaintersAtWall$Wall", "turn", "I", "PaintersAtWall"), (RX9, 214, "PaintersAtWall$Plan", "paints", "I", "PaintersAtWall"), (RX9, 217, "PaintersAtWall$Row", "length", "I", "PaintersAtWall"), (RX9, 220, "PaintersAtWall$Wall", "pastLength", "I", "PaintersAtWall"), (RX9, 223, "PaintersAtWall$Wall", "heldLength", "I", "PaintersAtWall"), (RX9, 226, "PaintersAtWall$Text", "length", "I", "PaintersAtWall"), (RX9, 80, "PaintersAtWall$Plan", "old", "I", "PaintersAtWall"), (RX9, 99, "PaintersAtWall$Plan", "shut", "I", "PaintersAtWall"), (RX4, 103, "PaintersAtWall$Plan", "paintsOf0", "I", "PaintersAtWall"), (RX4, 106, "PaintersAtWall$Plan", "paintsOf1", "I", "PaintersAtWall"), (RX4, 29, "PaintersAtWall$Text", "length", "I", "PaintersAtWall"), (RX4, 77, "PaintersAtWall$Plan", "rows", "I", "PaintersAtWall"), (RX4, 80, "PaintersAtWall$Plan", "columns", "I", "PaintersAtWall"), (RX4, 83, "PaintersAtWall$Plan", "paints", "I", "PaintersAtWall"), (RX8, 49, "PaintersAtWall$Plan", "old", "I", "PaintersAtWall")]
def jmn : List (String × Nat × MethodName × String) := [(RX9, 11, yX6_init, "PaintersAtWall"), (RX9, 18, yX4_init, "PaintersAtWall"), (RX9, 25, yX7_init, "PaintersAtWall"), (RX9, 32, yX5_init, "PaintersAtWall"), (RX9, 39, yX0_init, "PaintersAtWall"), (RX9, 46, yX1_init, "PaintersAtWall"), (RX4, 96, yX9_isPainter, "PaintersAtWall"), (RX8, 43, yX3_inPaints, "PaintersAtWall")]
def jNW (U : State) : Prop := (∀ q ∈ jfn, va_Nw (.fieldLinkNest q.1 q.2.1 q.2.2.1 q.2.2.2.1 q.2.2.2.2.1 q.2.2.2.2.2) U) ∧ (∀ q ∈ jmn, va_Nw (.methodLinkNest q.1 q.2.1 q.2.2.1 q.2.2.2) U)
theorem jNW.warm {s U : State} (hW : s.WarmedH U.vm) (h : jNW s) : jNW U := ⟨fun q hq => va_Nw.warmF hW (h.1 q hq), fun q hq => va_Nw.warmM hW (h.2 q hq)⟩
theorem jNW.same {u U : State} (hv : u.vm = U.vm) (h : jNW u) : jNW U := ⟨fun q hq => va_Nw.same rfl hv (h.1 q hq), fun q hq => va_Nw.same rfl hv (h.2 q hq)⟩
theorem jNW.f {U : State} (h : jNW U) {own ref nm ds host : String} {i : Nat} (hm : (own, i, ref, nm, ds, host) ∈ jfn) {A : Array Value} : (Cond.fieldLinkNest own i ref nm ds host).before A U = true := va_Nw.use rfl (h.1 _ hm)
theorem jNW.m {U : State} (h : jNW U) {own host : String} {i : Nat} {y : MethodName} (hm : (own, i, y, host) ∈ jmn) : va_Nw (.methodLinkNest own i y host) U := h.2 _ hm

theorem bfX9_12 : Cond.fieldLink RX9 12 "PaintersAtWall" "text" "LPaintersAtWall$Text;" ∈ BIG := bw1 (i := 229) (by decide +kernel) (by decide +kernel)
theorem bfX9_19 : Cond.fieldLink RX9 19 "PaintersAtWall" "reader" "LPaintersAtWall$Reader;" ∈ BIG := bw1 (i := 230) (by decide +kernel) (by decide +kernel)
theorem bfX9_26 : Cond.fieldLink RX9 26 "PaintersAtWall" "wall" "LPaintersAtWall$Wall;" ∈ BIG := bw1 (i := 231) (by decide +kernel) (by decide +kernel)
theorem bfX9_33 : Cond.fieldLink RX9 33 "PaintersAtWall" "row" "LPaintersAtWall$Row;" ∈ BIG := bw1 (i := 232) (by decide +kernel) (by decide +kernel)
theorem bfX9_40 : Cond.fieldLink RX9 40 "PaintersAtWall" "game" "LPaintersAtWall$Game;" ∈ BIG := bw1 (i := 233) (by decide +kernel) (by decide +kernel)
theorem bfX9_47 : Cond.fieldLink RX9 47 "PaintersAtWall" "lot" "LPaintersAtWall$Lot;" ∈ BIG := bw1 (i := 234) (by decide +kernel) (by decide +kernel)
theorem bfX9_54 : Cond.fieldLink RX9 54 "PaintersAtWall" "laid" "LPaintersAtWall$Plan;" ∈ BIG := bw1 (i := 235) (by decide +kernel) (by decide +kernel)
theorem bfX9_58 : Cond.fieldLink RX9 58 "PaintersAtWall" "spare" "LPaintersAtWall$Plan;" ∈ BIG := bw1 (i := 236) (by decide +kernel) (by decide +kernel)
theorem bfX0_11 : Cond.fieldLink RX0 11 "PaintersAtWall$Game" "known" "[I" ∈ BIG := bw1 (i := 116) (by decide +kernel) (by decide +kernel)
theorem bfX1_21 : Cond.fieldLink RX1 21 "PaintersAtWall$Lot" "above" "J" ∈ BIG := bw1 (i := 126) (by decide +kernel) (by decide +kernel)
theorem bfX1_25 : Cond.fieldLink RX1 25 "PaintersAtWall$Lot" "below" "J" ∈ BIG := bw1 (i := 127) (by decide +kernel) (by decide +kernel)
theorem bfX3_21 : Cond.fieldLink RX3 21 "PaintersAtWall$Plan" "rows" "I" ∈ BIG := bw1 (i := 177) (by decide +kernel) (by decide +kernel)
theorem bfX3_25 : Cond.fieldLink RX3 25 "PaintersAtWall$Plan" "columns" "I" ∈ BIG := bw1 (i := 179) (by decide +kernel) (by decide +kernel)
theorem bfX3_28 : Cond.fieldLink RX3 28 "PaintersAtWall$Plan" "paints" "I" ∈ BIG := bw1 (i := 181) (by decide +kernel) (by decide +kernel)
theorem bfX3_31 : Cond.fieldLink RX3 31 "PaintersAtWall$Plan" "apart" "I" ∈ BIG := bw1 (i := 184) (by decide +kernel) (by decide +kernel)
theorem bfX3_34 : Cond.fieldLink RX3 34 "PaintersAtWall$Plan" "paintsOf0" "I" ∈ BIG := bw1 (i := 185) (by decide +kernel) (by decide +kernel)
theorem bfX3_37 : Cond.fieldLink RX3 37 "PaintersAtWall$Plan" "paintsOf1" "I" ∈ BIG := bw1 (i := 187) (by decide +kernel) (by decide +kernel)
theorem bfX3_40 : Cond.fieldLink RX3 40 "PaintersAtWall$Plan" "old" "I" ∈ BIG := bw1 (i := 189) (by decide +kernel) (by decide +kernel)
theorem bfX3_43 : Cond.fieldLink RX3 43 "PaintersAtWall$Plan" "shut" "I" ∈ BIG := bw1 (i := 192) (by decide +kernel) (by decide +kernel)
theorem bfX3_53 : Cond.fieldLink RX3 53 "PaintersAtWall$Plan" "paintingsOf0" "I" ∈ BIG := bw1 (i := 197) (by decide +kernel) (by decide +kernel)
theorem bfX3_56 : Cond.fieldLink RX3 56 "PaintersAtWall$Plan" "paintingsOf1" "I" ∈ BIG := bw1 (i := 198) (by decide +kernel) (by decide +kernel)
theorem bfX3_69 : Cond.fieldLink RX3 69 "PaintersAtWall$Plan" "all" "I" ∈ BIG := bw1 (i := 194) (by decide +kernel) (by decide +kernel)
theorem bfX3_72 : Cond.fieldLink RX3 72 "PaintersAtWall$Plan" "firstColumn" "I" ∈ BIG := bw1 (i := 195) (by decide +kernel) (by decide +kernel)
theorem bfX3_78 : Cond.fieldLink RX3 78 "PaintersAtWall$Plan" "fitsAtFirst" "I" ∈ BIG := bw1 (i := 196) (by decide +kernel) (by decide +kernel)
theorem bfX3_9 : Cond.fieldLink RX3 9 "PaintersAtWall$Plan" "ruledOut" "[I" ∈ BIG := bw1 (i := 199) (by decide +kernel) (by decide +kernel)
theorem bfX4_14 : Cond.fieldLink RX4 14 "PaintersAtWall$Reader" "at" "I" ∈ BIG := bw1 (i := 46) (by decide +kernel) (by decide +kernel)
theorem bfX4_20 : Cond.fieldLink RX4 20 "PaintersAtWall$Reader" "stoneTold" "Z" ∈ BIG := bw1 (i := 49) (by decide +kernel) (by decide +kernel)
theorem bfX4_24 : Cond.fieldLink RX4 24 "PaintersAtWall$Reader" "paintTold" "Z" ∈ BIG := bw1 (i := 50) (by decide +kernel) (by decide +kernel)
theorem bfX4_39 : Cond.fieldLink RX4 39 "PaintersAtWall$Reader" "second" "I" ∈ BIG := bw1 (i := 48) (by decide +kernel) (by decide +kernel)
theorem bfX4_46 : Cond.fieldLink RX4 46 "PaintersAtWall$Reader" "first" "I" ∈ BIG := bw1 (i := 47) (by decide +kernel) (by decide +kernel)
theorem bfX5_15 : Cond.fieldLink RX5 15 "PaintersAtWall$Row" "length" "I" ∈ BIG := bw1 (i := 102) (by decide +kernel) (by decide +kernel)
theorem bfX5_9 : Cond.fieldLink RX5 9 "PaintersAtWall$Row" "paintings" "[I" ∈ BIG := bw1 (i := 101) (by decide +kernel) (by decide +kernel)
theorem bfX6_11 : Cond.fieldLink RX6 11 "PaintersAtWall$Text" "bytes" "[B" ∈ BIG := bw1 (i := 30) (by decide +kernel) (by decide +kernel)
theorem bfX6_15 : Cond.fieldLink RX6 15 "PaintersAtWall$Text" "length" "I" ∈ BIG := bw1 (i := 31) (by decide +kernel) (by decide +kernel)
theorem bfX7_15 : Cond.fieldLink RX7 15 "PaintersAtWall$Wall" "held" "[J" ∈ BIG := bw1 (i := 76) (by decide +kernel) (by decide +kernel)
theorem bfX7_18 : Cond.fieldLink RX7 18 "PaintersAtWall$Wall" "worn" "I" ∈ BIG := bw1 (i := 68) (by decide +kernel) (by decide +kernel)
theorem bfX7_22 : Cond.fieldLink RX7 22 "PaintersAtWall$Wall" "turn" "I" ∈ BIG := bw1 (i := 70) (by decide +kernel) (by decide +kernel)
theorem bfX7_25 : Cond.fieldLink RX7 25 "PaintersAtWall$Wall" "order" "J" ∈ BIG := bw1 (i := 72) (by decide +kernel) (by decide +kernel)
theorem bfX7_29 : Cond.fieldLink RX7 29 "PaintersAtWall$Wall" "pastLength" "I" ∈ BIG := bw1 (i := 74) (by decide +kernel) (by decide +kernel)
theorem bfX7_32 : Cond.fieldLink RX7 32 "PaintersAtWall$Wall" "heldLength" "I" ∈ BIG := bw1 (i := 77) (by decide +kernel) (by decide +kernel)
theorem bfX7_9 : Cond.fieldLink RX7 9 "PaintersAtWall$Wall" "past" "[J" ∈ BIG := bw1 (i := 73) (by decide +kernel) (by decide +kernel)
theorem bfX10_100 : Cond.fieldLink RX10 100 "PaintersAtWallModel" "kept" "I" ∈ BIG := bw4 (i := 12) (by decide +kernel) (by decide +kernel)
theorem bfX10_13 : Cond.fieldLink RX10 13 "PaintersAtWallModel" "told" "[I" ∈ BIG := bw4 (i := 5) (by decide +kernel) (by decide +kernel)
theorem bfX10_147 : Cond.fieldLink RX10 147 "PaintersAtWallModel" "frees" "I" ∈ BIG := bw4 (i := 17) (by decide +kernel) (by decide +kernel)
theorem bfX10_153 : Cond.fieldLink RX10 153 "PaintersAtWallModel" "fewest" "I" ∈ BIG := bw4 (i := 21) (by decide +kernel) (by decide +kernel)
theorem bfX10_17 : Cond.fieldLink RX10 17 "PaintersAtWallModel" "touches" "[Z" ∈ BIG := bw4 (i := 6) (by decide +kernel) (by decide +kernel)
theorem bfX10_21 : Cond.fieldLink RX10 21 "PaintersAtWallModel" "has" "[I" ∈ BIG := bw4 (i := 7) (by decide +kernel) (by decide +kernel)
theorem bfX10_24 : Cond.fieldLink RX10 24 "PaintersAtWallModel" "old" "[I" ∈ BIG := bw4 (i := 8) (by decide +kernel) (by decide +kernel)
theorem bfX10_27 : Cond.fieldLink RX10 27 "PaintersAtWallModel" "beside" "[I" ∈ BIG := bw4 (i := 9) (by decide +kernel) (by decide +kernel)
theorem bfX10_30 : Cond.fieldLink RX10 30 "PaintersAtWallModel" "slot" "[I" ∈ BIG := bw4 (i := 11) (by decide +kernel) (by decide +kernel)
theorem bfX10_33 : Cond.fieldLink RX10 33 "PaintersAtWallModel" "row" "[I" ∈ BIG := bw4 (i := 15) (by decide +kernel) (by decide +kernel)
theorem bfX10_36 : Cond.fieldLink RX10 36 "PaintersAtWallModel" "free" "[I" ∈ BIG := bw4 (i := 16) (by decide +kernel) (by decide +kernel)
theorem bfX10_40 : Cond.fieldLink RX10 40 "PaintersAtWallModel" "worth" "[B" ∈ BIG := bw4 (i := 18) (by decide +kernel) (by decide +kernel)
theorem bfX10_43 : Cond.fieldLink RX10 43 "PaintersAtWallModel" "fore" "[I" ∈ BIG := bw4 (i := 19) (by decide +kernel) (by decide +kernel)
theorem bfX10_46 : Cond.fieldLink RX10 46 "PaintersAtWallModel" "back" "[I" ∈ BIG := bw4 (i := 20) (by decide +kernel) (by decide +kernel)
theorem bfX10_49 : Cond.fieldLink RX10 49 "PaintersAtWallModel" "got" "[I" ∈ BIG := bw4 (i := 22) (by decide +kernel) (by decide +kernel)
theorem bfX10_64 : Cond.fieldLink RX10 64 "PaintersAtWallModel" "length" "I" ∈ BIG := bw4 (i := 2) (by decide +kernel) (by decide +kernel)
theorem bfX10_68 : Cond.fieldLink RX10 68 "PaintersAtWallModel" "at" "I" ∈ BIG := bw4 (i := 4) (by decide +kernel) (by decide +kernel)
theorem bfX10_7 : Cond.fieldLink RX10 7 "PaintersAtWallModel" "text" "[B" ∈ BIG := bw4 (i := 3) (by decide +kernel) (by decide +kernel)
theorem bfX10_91 : Cond.fieldLink RX10 91 "PaintersAtWallModel" "stones" "I" ∈ BIG := bw4 (i := 10) (by decide +kernel) (by decide +kernel)
theorem bfX10_94 : Cond.fieldLink RX10 94 "PaintersAtWallModel" "rows" "I" ∈ BIG := bw4 (i := 14) (by decide +kernel) (by decide +kernel)
theorem bfX10_97 : Cond.fieldLink RX10 97 "PaintersAtWallModel" "done" "I" ∈ BIG := bw4 (i := 13) (by decide +kernel) (by decide +kernel)
theorem bmX9_105 : Cond.methodLink RX9 105 yX3_paintOn ∈ BIG := bw2 (i := 146) (by decide +kernel) (by decide +kernel)
theorem bmX9_109 : Cond.methodLink RX9 109 yX3_near ∈ BIG := bw2 (i := 152) (by decide +kernel) (by decide +kernel)
theorem bmX9_113 : Cond.methodLink RX9 113 yX3_hasPaint ∈ BIG := bw2 (i := 157) (by decide +kernel) (by decide +kernel)
theorem bmX9_116 : Cond.methodLink RX9 116 yX3_mayTouch ∈ BIG := bw2 (i := 158) (by decide +kernel) (by decide +kernel)
theorem bmX9_120 : Cond.methodLink RX9 120 yX9_choicesNow ∈ BIG := bw2 (i := 163) (by decide +kernel) (by decide +kernel)
theorem bmX9_123 : Cond.methodLink RX9 123 yX3_paintsAt ∈ BIG := bw2 (i := 175) (by decide +kernel) (by decide +kernel)
theorem bmX9_126 : Cond.methodLink RX9 126 yX3_painting ∈ BIG := bw2 (i := 180) (by decide +kernel) (by decide +kernel)
theorem bmX9_129 : Cond.methodLink RX9 129 yX7_put ∈ BIG := bw2 (i := 181) (by decide +kernel) (by decide +kernel)
theorem bmX9_133 : Cond.methodLink RX9 133 yJ6_bitCount_0f7a4 ∈ BIG := bw2 (i := 196) (by decide +kernel) (by decide +kernel)
theorem bmX9_138 : Cond.methodLink RX9 138 yX9_loose ∈ BIG := bw2 (i := 206) (by decide +kernel) (by decide +kernel)
theorem bmX9_141 : Cond.methodLink RX9 141 yJ9_min_7cf53 ∈ BIG := bw2 (i := 210) (by decide +kernel) (by decide +kernel)
theorem bmX9_146 : Cond.methodLink RX9 146 yX7_washOff ∈ BIG := bw2 (i := 213) (by decide +kernel) (by decide +kernel)
theorem bmX9_149 : Cond.methodLink RX9 149 yX7_skip ∈ BIG := bw2 (i := 223) (by decide +kernel) (by decide +kernel)
theorem bmX9_155 : Cond.methodLink RX9 155 yX7_stepBack ∈ BIG := bw2 (i := 231) (by decide +kernel) (by decide +kernel)
theorem bmX9_158 : Cond.methodLink RX9 158 yX5_add ∈ BIG := bw3 (i := 4) (by decide +kernel) (by decide +kernel)
theorem bmX9_160 : Cond.methodLink RX9 160 yX5_firstWrong ∈ BIG := bw3 (i := 16) (by decide +kernel) (by decide +kernel)
theorem bmX9_164 : Cond.methodLink RX9 164 yX8_waysToFill ∈ BIG := bw3 (i := 31) (by decide +kernel) (by decide +kernel)
theorem bmX9_170 : Cond.methodLink RX9 170 yX8_fewestPaints ∈ BIG := bw3 (i := 54) (by decide +kernel) (by decide +kernel)
theorem bmX9_173 : Cond.methodLink RX9 173 yX8_leastScraped ∈ BIG := bw3 (i := 68) (by decide +kernel) (by decide +kernel)
theorem bmX9_176 : Cond.methodLink RX9 176 yX8_mattering ∈ BIG := bw3 (i := 79) (by decide +kernel) (by decide +kernel)
theorem bmX9_179 : Cond.methodLink RX9 179 yX0_lowestGood ∈ BIG := bw3 (i := 86) (by decide +kernel) (by decide +kernel)
theorem bmX9_183 : Cond.methodLink RX9 183 yX9_isPainter ∈ BIG := bw3 (i := 123) (by decide +kernel) (by decide +kernel)
theorem bmX9_186 : Cond.methodLink RX9 186 yX0_getsHisWill ∈ BIG := bw3 (i := 124) (by decide +kernel) (by decide +kernel)
theorem bmX9_190 : Cond.methodLink RX9 190 yX2_ordersOf ∈ BIG := bw3 (i := 132) (by decide +kernel) (by decide +kernel)
theorem bmX9_195 : Cond.methodLink RX9 195 yX2_surelyBy ∈ BIG := bw3 (i := 160) (by decide +kernel) (by decide +kernel)
theorem bmX9_200 : Cond.methodLink RX9 200 yX1_chance ∈ BIG := bw3 (i := 169) (by decide +kernel) (by decide +kernel)
theorem bmX9_204 : Cond.methodLink RX9 204 yX1_draw ∈ BIG := bw3 (i := 196) (by decide +kernel) (by decide +kernel)
theorem bmX9_208 : Cond.methodLink RX9 208 yX7_hold ∈ BIG := bw3 (i := 211) (by decide +kernel) (by decide +kernel)
theorem bmX9_211 : Cond.methodLink RX9 211 yX7_takeHeld ∈ BIG := bw3 (i := 219) (by decide +kernel) (by decide +kernel)
theorem bmX9_227 : Cond.methodLink RX9 227 yX3_fitting ∈ BIG := bw2 (i := 167) (by decide +kernel) (by decide +kernel)
theorem bmX9_230 : Cond.methodLink RX9 230 yX3_paintingsOf ∈ BIG := bw2 (i := 171) (by decide +kernel) (by decide +kernel)
theorem bmX9_3 : Cond.methodLink RX9 3 Lib.objectInit ∈ BIG := bw1 (i := 21) (by decide +kernel) (by decide +kernel)
theorem bmX9_53 : Cond.methodLink RX9 53 yX3_init ∈ BIG := bw1 (i := 135) (by decide +kernel) (by decide +kernel)
theorem bmX9_61 : Cond.methodLink RX9 61 yX6_add ∈ BIG := bw2 (i := 18) (by decide +kernel) (by decide +kernel)
theorem bmX9_65 : Cond.methodLink RX9 65 yX6_empty ∈ BIG := bw2 (i := 26) (by decide +kernel) (by decide +kernel)
theorem bmX9_69 : Cond.methodLink RX9 69 yX4_faultIn ∈ BIG := bw2 (i := 34) (by decide +kernel) (by decide +kernel)
theorem bmX9_73 : Cond.methodLink RX9 73 yX3_settle ∈ BIG := bw2 (i := 120) (by decide +kernel) (by decide +kernel)
theorem bmX9_76 : Cond.methodLink RX9 76 yX3_oldOnesClash ∈ BIG := bw2 (i := 121) (by decide +kernel) (by decide +kernel)
theorem bmX9_84 : Cond.methodLink RX9 84 yX7_begin ∈ BIG := bw2 (i := 125) (by decide +kernel) (by decide +kernel)
theorem bmX9_88 : Cond.methodLink RX9 88 yX5_empty ∈ BIG := bw2 (i := 129) (by decide +kernel) (by decide +kernel)
theorem bmX9_89 : Cond.methodLink RX9 89 yX0_forget ∈ BIG := bw2 (i := 133) (by decide +kernel) (by decide +kernel)
theorem bmX9_92 : Cond.methodLink RX9 92 yX3_stones ∈ BIG := bw2 (i := 140) (by decide +kernel) (by decide +kernel)
theorem bmX9_95 : Cond.methodLink RX9 95 yX3_hasStone ∈ BIG := bw2 (i := 145) (by decide +kernel) (by decide +kernel)
theorem bmX0_15 : Cond.methodLink RX0 15 yJ7_fill_53178 ∈ BIG := bw2 (i := 137) (by decide +kernel) (by decide +kernel)
theorem bmX0_21 : Cond.methodLink RX0 21 yX0_fittingForSome ∈ BIG := bw3 (i := 90) (by decide +kernel) (by decide +kernel)
theorem bmX0_25 : Cond.methodLink RX0 25 yX3_bare ∈ BIG := bw3 (i := 95) (by decide +kernel) (by decide +kernel)
theorem bmX0_3 : Cond.methodLink RX0 3 Lib.objectInit ∈ BIG := bw1 (i := 115) (by decide +kernel) (by decide +kernel)
theorem bmX0_31 : Cond.methodLink RX0 31 yX0_wins ∈ BIG := bw3 (i := 98) (by decide +kernel) (by decide +kernel)
theorem bmX0_35 : Cond.methodLink RX0 35 yX3_paintingsOf ∈ BIG := bw3 (i := 94) (by decide +kernel) (by decide +kernel)
theorem bmX0_38 : Cond.methodLink RX0 38 yX3_painting ∈ BIG := bw3 (i := 96) (by decide +kernel) (by decide +kernel)
theorem bmX0_42 : Cond.methodLink RX0 42 yX3_fittingAfter ∈ BIG := bw3 (i := 97) (by decide +kernel) (by decide +kernel)
theorem bmX0_45 : Cond.methodLink RX0 45 yX3_fitting ∈ BIG := bw3 (i := 93) (by decide +kernel) (by decide +kernel)
theorem bmX0_48 : Cond.methodLink RX0 48 yX3_painted ∈ BIG := bw3 (i := 102) (by decide +kernel) (by decide +kernel)
theorem bmX0_51 : Cond.methodLink RX0 51 yX0_recall ∈ BIG := bw3 (i := 103) (by decide +kernel) (by decide +kernel)
theorem bmX0_54 : Cond.methodLink RX0 54 yX0_hasWinning ∈ BIG := bw3 (i := 111) (by decide +kernel) (by decide +kernel)
theorem bmX0_57 : Cond.methodLink RX0 57 yX0_note ∈ BIG := bw3 (i := 115) (by decide +kernel) (by decide +kernel)
theorem bmX0_62 : Cond.methodLink RX0 62 yX0_cellOf ∈ BIG := bw3 (i := 107) (by decide +kernel) (by decide +kernel)
theorem bmX1_15 : Cond.methodLink RX1 15 yX1_weigh ∈ BIG := bw3 (i := 174) (by decide +kernel) (by decide +kernel)
theorem bmX1_28 : Cond.methodLink RX1 28 yX3_paintingsOf ∈ BIG := bw3 (i := 178) (by decide +kernel) (by decide +kernel)
theorem bmX1_3 : Cond.methodLink RX1 3 Lib.objectInit ∈ BIG := bw1 (i := 125) (by decide +kernel) (by decide +kernel)
theorem bmX1_31 : Cond.methodLink RX1 31 yX1_settle ∈ BIG := bw3 (i := 179) (by decide +kernel) (by decide +kernel)
theorem bmX1_35 : Cond.methodLink RX1 35 yX1_weighAll ∈ BIG := bw3 (i := 186) (by decide +kernel) (by decide +kernel)
theorem bmX1_38 : Cond.methodLink RX1 38 yX3_fittingAfter ∈ BIG := bw3 (i := 190) (by decide +kernel) (by decide +kernel)
theorem bmX1_42 : Cond.methodLink RX1 42 yJ6_bitCount_0f7a4 ∈ BIG := bw3 (i := 191) (by decide +kernel) (by decide +kernel)
theorem bmX1_47 : Cond.methodLink RX1 47 yX1_commonPart ∈ BIG := bw3 (i := 183) (by decide +kernel) (by decide +kernel)
theorem bmX1_57 : Cond.methodLink RX1 57 yX1_picked ∈ BIG := bw3 (i := 203) (by decide +kernel) (by decide +kernel)
theorem bmX1_60 : Cond.methodLink RX1 60 yX3_painting ∈ BIG := bw3 (i := 206) (by decide +kernel) (by decide +kernel)
theorem bmX1_9 : Cond.methodLink RX1 9 yX3_fitting ∈ BIG := bw3 (i := 173) (by decide +kernel) (by decide +kernel)
theorem bmX2_15 : Cond.methodLink RX2 15 yX2_byEither ∈ BIG := bw3 (i := 136) (by decide +kernel) (by decide +kernel)
theorem bmX2_21 : Cond.methodLink RX2 21 yX2_byOneAlone ∈ BIG := bw3 (i := 144) (by decide +kernel) (by decide +kernel)
theorem bmX2_25 : Cond.methodLink RX2 25 yX2_byNeither ∈ BIG := bw3 (i := 147) (by decide +kernel) (by decide +kernel)
theorem bmX2_28 : Cond.methodLink RX2 28 yX2_choose ∈ BIG := bw3 (i := 150) (by decide +kernel) (by decide +kernel)
theorem bmX2_32 : Cond.methodLink RX2 32 yX2_rowsOf ∈ BIG := bw3 (i := 153) (by decide +kernel) (by decide +kernel)
theorem bmX2_35 : Cond.methodLink RX2 35 yX2_ordersOf ∈ BIG := bw3 (i := 163) (by decide +kernel) (by decide +kernel)
theorem bmX2_38 : Cond.methodLink RX2 38 yX3_paintsOf ∈ BIG := bw3 (i := 139) (by decide +kernel) (by decide +kernel)
theorem bmX2_43 : Cond.methodLink RX2 43 yX2_stonesIn ∈ BIG := bw3 (i := 140) (by decide +kernel) (by decide +kernel)
theorem bmX2_46 : Cond.methodLink RX2 46 yX3_stonesWith ∈ BIG := bw3 (i := 143) (by decide +kernel) (by decide +kernel)
theorem bmX2_9 : Cond.methodLink RX2 9 yJ6_bitCount_0f7a4 ∈ BIG := bw3 (i := 135) (by decide +kernel) (by decide +kernel)
theorem bmX3_103 : Cond.methodLink RX3 103 yX3_stonesWith ∈ BIG := bw3 (i := 42) (by decide +kernel) (by decide +kernel)
theorem bmX3_106 : Cond.methodLink RX3 106 yX3_paintsAt ∈ BIG := bw2 (i := 149) (by decide +kernel) (by decide +kernel)
theorem bmX3_15 : Cond.methodLink RX3 15 yX3_clear ∈ BIG := bw1 (i := 139) (by decide +kernel) (by decide +kernel)
theorem bmX3_18 : Cond.methodLink RX3 18 yX3_settle ∈ BIG := bw1 (i := 143) (by decide +kernel) (by decide +kernel)
theorem bmX3_3 : Cond.methodLink RX3 3 Lib.objectInit ∈ BIG := bw1 (i := 138) (by decide +kernel) (by decide +kernel)
theorem bmX3_46 : Cond.methodLink RX3 46 yX3_stones ∈ BIG := bw1 (i := 147) (by decide +kernel) (by decide +kernel)
theorem bmX3_50 : Cond.methodLink RX3 50 yX3_allPaints ∈ BIG := bw1 (i := 151) (by decide +kernel) (by decide +kernel)
theorem bmX3_59 : Cond.methodLink RX3 59 yX3_pair ∈ BIG := bw1 (i := 170) (by decide +kernel) (by decide +kernel)
theorem bmX3_63 : Cond.methodLink RX3 63 yX3_withoutPaint ∈ BIG := bw2 (i := 102) (by decide +kernel) (by decide +kernel)
theorem bmX3_66 : Cond.methodLink RX3 66 yX3_painting ∈ BIG := bw2 (i := 105) (by decide +kernel) (by decide +kernel)
theorem bmX3_75 : Cond.methodLink RX3 75 yX3_inPaints ∈ BIG := bw1 (i := 155) (by decide +kernel) (by decide +kernel)
theorem bmX3_81 : Cond.methodLink RX3 81 yX3_paintsOf ∈ BIG := bw1 (i := 158) (by decide +kernel) (by decide +kernel)
theorem bmX3_85 : Cond.methodLink RX3 85 yX3_ruledOutBy ∈ BIG := bw1 (i := 162) (by decide +kernel) (by decide +kernel)
theorem bmX3_88 : Cond.methodLink RX3 88 yX3_mayTouch ∈ BIG := bw1 (i := 166) (by decide +kernel) (by decide +kernel)
theorem bmX3_92 : Cond.methodLink RX3 92 yX3_near ∈ BIG := bw1 (i := 173) (by decide +kernel) (by decide +kernel)
theorem bmX3_95 : Cond.methodLink RX3 95 yX3_painted ∈ BIG := bw3 (i := 39) (by decide +kernel) (by decide +kernel)
theorem bmX3_98 : Cond.methodLink RX3 98 yJ6_bitCount_0f7a4 ∈ BIG := bw3 (i := 26) (by decide +kernel) (by decide +kernel)
theorem bmX4_109 : Cond.methodLink RX4 109 yX3_hasStone ∈ BIG := bw2 (i := 94) (by decide +kernel) (by decide +kernel)
theorem bmX4_112 : Cond.methodLink RX4 112 yX3_setOld ∈ BIG := bw2 (i := 98) (by decide +kernel) (by decide +kernel)
theorem bmX4_115 : Cond.methodLink RX4 115 yX3_setShut ∈ BIG := bw2 (i := 112) (by decide +kernel) (by decide +kernel)
theorem bmX4_3 : Cond.methodLink RX4 3 Lib.objectInit ∈ BIG := bw1 (i := 45) (by decide +kernel) (by decide +kernel)
theorem bmX4_32 : Cond.methodLink RX4 32 yX4_item ∈ BIG := bw2 (i := 39) (by decide +kernel) (by decide +kernel)
theorem bmX4_36 : Cond.methodLink RX4 36 yX6_at ∈ BIG := bw2 (i := 43) (by decide +kernel) (by decide +kernel)
theorem bmX4_42 : Cond.methodLink RX4 42 yX4_number ∈ BIG := bw2 (i := 47) (by decide +kernel) (by decide +kernel)
theorem bmX4_49 : Cond.methodLink RX4 49 yX4_takes ∈ BIG := bw2 (i := 54) (by decide +kernel) (by decide +kernel)
theorem bmX4_53 : Cond.methodLink RX4 53 yX4_isFigure ∈ BIG := bw2 (i := 51) (by decide +kernel) (by decide +kernel)
theorem bmX4_57 : Cond.methodLink RX4 57 yX4_takesShape ∈ BIG := bw2 (i := 58) (by decide +kernel) (by decide +kernel)
theorem bmX4_61 : Cond.methodLink RX4 61 yX4_takesPaints ∈ BIG := bw2 (i := 62) (by decide +kernel) (by decide +kernel)
theorem bmX4_64 : Cond.methodLink RX4 64 yX4_takesPair ∈ BIG := bw2 (i := 66) (by decide +kernel) (by decide +kernel)
theorem bmX4_68 : Cond.methodLink RX4 68 yX4_takesPainter ∈ BIG := bw2 (i := 82) (by decide +kernel) (by decide +kernel)
theorem bmX4_71 : Cond.methodLink RX4 71 yX4_takesOld ∈ BIG := bw2 (i := 90) (by decide +kernel) (by decide +kernel)
theorem bmX4_74 : Cond.methodLink RX4 74 yX4_takesShut ∈ BIG := bw2 (i := 108) (by decide +kernel) (by decide +kernel)
theorem bmX4_86 : Cond.methodLink RX4 86 yX3_hasPaint ∈ BIG := bw2 (i := 70) (by decide +kernel) (by decide +kernel)
theorem bmX4_89 : Cond.methodLink RX4 89 yX3_setApart ∈ BIG := bw2 (i := 74) (by decide +kernel) (by decide +kernel)
theorem bmX4_9 : Cond.methodLink RX4 9 yX3_clear ∈ BIG := bw2 (i := 38) (by decide +kernel) (by decide +kernel)
theorem bmX4_93 : Cond.methodLink RX4 93 yX3_setTogether ∈ BIG := bw2 (i := 78) (by decide +kernel) (by decide +kernel)
theorem bmX4_99 : Cond.methodLink RX4 99 yX3_allPaints ∈ BIG := bw2 (i := 89) (by decide +kernel) (by decide +kernel)
theorem bmX5_19 : Cond.methodLink RX5 19 yX3_fitting ∈ BIG := bw3 (i := 20) (by decide +kernel) (by decide +kernel)
theorem bmX5_25 : Cond.methodLink RX5 25 yX3_paintingsOf ∈ BIG := bw3 (i := 21) (by decide +kernel) (by decide +kernel)
theorem bmX5_28 : Cond.methodLink RX5 28 yX3_fittingAfter ∈ BIG := bw3 (i := 22) (by decide +kernel) (by decide +kernel)
theorem bmX5_3 : Cond.methodLink RX5 3 Lib.objectInit ∈ BIG := bw1 (i := 100) (by decide +kernel) (by decide +kernel)
theorem bmX6_3 : Cond.methodLink RX6 3 Lib.objectInit ∈ BIG := bw1 (i := 29) (by decide +kernel) (by decide +kernel)
theorem bmX7_3 : Cond.methodLink RX7 3 Lib.objectInit ∈ BIG := bw1 (i := 67) (by decide +kernel) (by decide +kernel)
theorem bmX7_35 : Cond.methodLink RX7 35 yX7_noteForUndo ∈ BIG := bw2 (i := 185) (by decide +kernel) (by decide +kernel)
theorem bmX7_40 : Cond.methodLink RX7 40 yX3_withoutPaint ∈ BIG := bw2 (i := 218) (by decide +kernel) (by decide +kernel)
theorem bmX7_46 : Cond.methodLink RX7 46 yX7_standAs ∈ BIG := bw2 (i := 235) (by decide +kernel) (by decide +kernel)
theorem bmX7_50 : Cond.methodLink RX7 50 yX7_packed ∈ BIG := bw2 (i := 192) (by decide +kernel) (by decide +kernel)
theorem bmX7_54 : Cond.methodLink RX7 54 arraycopyName ∈ BIG := bw2 (i := 189) (by decide +kernel) (by decide +kernel)
theorem bmX8_15 : Cond.methodLink RX8 15 yX3_bare ∈ BIG := bw3 (i := 35) (by decide +kernel) (by decide +kernel)
theorem bmX8_20 : Cond.methodLink RX8 20 yX8_fillings ∈ BIG := bw3 (i := 45) (by decide +kernel) (by decide +kernel)
theorem bmX8_24 : Cond.methodLink RX8 24 yX3_painted ∈ BIG := bw3 (i := 48) (by decide +kernel) (by decide +kernel)
theorem bmX8_27 : Cond.methodLink RX8 27 yX3_fittingAfter ∈ BIG := bw3 (i := 49) (by decide +kernel) (by decide +kernel)
theorem bmX8_31 : Cond.methodLink RX8 31 yX8_paintsIn ∈ BIG := bw3 (i := 57) (by decide +kernel) (by decide +kernel)
theorem bmX8_34 : Cond.methodLink RX8 34 yX3_allPaints ∈ BIG := bw3 (i := 61) (by decide +kernel) (by decide +kernel)
theorem bmX8_38 : Cond.methodLink RX8 38 yJ6_bitCount_0f7a4 ∈ BIG := bw3 (i := 62) (by decide +kernel) (by decide +kernel)
theorem bmX8_46 : Cond.methodLink RX8 46 yX3_stonesWith ∈ BIG := bw3 (i := 60) (by decide +kernel) (by decide +kernel)
theorem bmX8_53 : Cond.methodLink RX8 53 yX3_withoutPaint ∈ BIG := bw3 (i := 71) (by decide +kernel) (by decide +kernel)
theorem bmX8_56 : Cond.methodLink RX8 56 yX8_canBeDone ∈ BIG := bw3 (i := 72) (by decide +kernel) (by decide +kernel)
theorem bmX8_9 : Cond.methodLink RX8 9 yX3_fitting ∈ BIG := bw3 (i := 34) (by decide +kernel) (by decide +kernel)
theorem bmL_102 : Cond.methodLink RL 102 yX10_orders ∈ BIG := bw5 (i := 18) (by decide +kernel) (by decide +kernel)
theorem bmL_103 : Cond.methodLink RL 103 yX9_only ∈ BIG := bw3 (i := 156) (by decide +kernel) (by decide +kernel)
theorem bmL_106 : Cond.methodLink RL 106 yX10_only ∈ BIG := bw5 (i := 30) (by decide +kernel) (by decide +kernel)
theorem bmL_107 : Cond.methodLink RL 107 yX9_odds ∈ BIG := bw3 (i := 164) (by decide +kernel) (by decide +kernel)
theorem bmL_111 : Cond.methodLink RL 111 yX10_odds ∈ BIG := bw5 (i := 34) (by decide +kernel) (by decide +kernel)
theorem bmL_112 : Cond.methodLink RL 112 yX9_evening ∈ BIG := bw3 (i := 192) (by decide +kernel) (by decide +kernel)
theorem bmL_115 : Cond.methodLink RL 115 yX10_evening ∈ BIG := bw5 (i := 48) (by decide +kernel) (by decide +kernel)
theorem bmL_116 : Cond.methodLink RL 116 yX9_keep ∈ BIG := bw3 (i := 207) (by decide +kernel) (by decide +kernel)
theorem bmL_119 : Cond.methodLink RL 119 yX10_keep ∈ BIG := bw5 (i := 60) (by decide +kernel) (by decide +kernel)
theorem bmL_12 : Cond.methodLink RL 12 yX10_init ∈ BIG := bw3 (i := 229) (by decide +kernel) (by decide +kernel)
theorem bmL_120 : Cond.methodLink RL 120 yX9_back ∈ BIG := bw3 (i := 215) (by decide +kernel) (by decide +kernel)
theorem bmL_123 : Cond.methodLink RL 123 yX10_back ∈ BIG := bw5 (i := 64) (by decide +kernel) (by decide +kernel)
theorem bmL_124 : Cond.methodLink RL 124 yX9_count ∈ BIG := bw3 (i := 223) (by decide +kernel) (by decide +kernel)
theorem bmL_127 : Cond.methodLink RL 127 yX10_count ∈ BIG := bw5 (i := 68) (by decide +kernel) (by decide +kernel)
theorem bmL_15 : Cond.methodLink RL 15 yX9_write ∈ BIG := bw2 (i := 14) (by decide +kernel) (by decide +kernel)
theorem bmL_19 : Cond.methodLink RL 19 yX10_write ∈ BIG := bw4 (i := 67) (by decide +kernel) (by decide +kernel)
theorem bmL_20 : Cond.methodLink RL 20 yX9_wipe ∈ BIG := bw2 (i := 22) (by decide +kernel) (by decide +kernel)
theorem bmL_24 : Cond.methodLink RL 24 yX10_wipe ∈ BIG := bw4 (i := 75) (by decide +kernel) (by decide +kernel)
theorem bmL_25 : Cond.methodLink RL 25 yX9_fault ∈ BIG := bw2 (i := 30) (by decide +kernel) (by decide +kernel)
theorem bmL_28 : Cond.methodLink RL 28 yX10_fault ∈ BIG := bw4 (i := 79) (by decide +kernel) (by decide +kernel)
theorem bmL_29 : Cond.methodLink RL 29 yX9_lay ∈ BIG := bw2 (i := 116) (by decide +kernel) (by decide +kernel)
theorem bmL_32 : Cond.methodLink RL 32 yX10_lay ∈ BIG := bw4 (i := 102) (by decide +kernel) (by decide +kernel)
theorem bmL_33 : Cond.methodLink RL 33 yX9_stone ∈ BIG := bw2 (i := 141) (by decide +kernel) (by decide +kernel)
theorem bmL_37 : Cond.methodLink RL 37 yX10_stone ∈ BIG := bw4 (i := 115) (by decide +kernel) (by decide +kernel)
theorem bmL_38 : Cond.methodLink RL 38 yX9_touch ∈ BIG := bw2 (i := 153) (by decide +kernel) (by decide +kernel)
theorem bmL_41 : Cond.methodLink RL 41 yX10_touch ∈ BIG := bw4 (i := 123) (by decide +kernel) (by decide +kernel)
theorem bmL_42 : Cond.methodLink RL 42 yX9_may ∈ BIG := bw2 (i := 159) (by decide +kernel) (by decide +kernel)
theorem bmL_46 : Cond.methodLink RL 46 yX10_may ∈ BIG := bw4 (i := 131) (by decide +kernel) (by decide +kernel)
theorem bmL_47 : Cond.methodLink RL 47 yX9_paint ∈ BIG := bw2 (i := 176) (by decide +kernel) (by decide +kernel)
theorem bmL_50 : Cond.methodLink RL 50 yX10_paint ∈ BIG := bw4 (i := 143) (by decide +kernel) (by decide +kernel)
theorem bmL_51 : Cond.methodLink RL 51 yX9_rain ∈ BIG := bw2 (i := 202) (by decide +kernel) (by decide +kernel)
theorem bmL_54 : Cond.methodLink RL 54 yX10_rain ∈ BIG := bw4 (i := 163) (by decide +kernel) (by decide +kernel)
theorem bmL_55 : Cond.methodLink RL 55 yX9_pass ∈ BIG := bw2 (i := 219) (by decide +kernel) (by decide +kernel)
theorem bmL_58 : Cond.methodLink RL 58 yX10_pass ∈ BIG := bw4 (i := 167) (by decide +kernel) (by decide +kernel)
theorem bmL_59 : Cond.methodLink RL 59 yX9_undo ∈ BIG := bw2 (i := 227) (by decide +kernel) (by decide +kernel)
theorem bmL_62 : Cond.methodLink RL 62 yX10_undo ∈ BIG := bw4 (i := 175) (by decide +kernel) (by decide +kernel)
theorem bmL_63 : Cond.methodLink RL 63 yX9_tell ∈ BIG := bw3 (i := 0) (by decide +kernel) (by decide +kernel)
theorem bmL_66 : Cond.methodLink RL 66 yX10_tell ∈ BIG := bw4 (i := 179) (by decide +kernel) (by decide +kernel)
theorem bmL_67 : Cond.methodLink RL 67 yX9_noRow ∈ BIG := bw3 (i := 8) (by decide +kernel) (by decide +kernel)
theorem bmL_70 : Cond.methodLink RL 70 yX10_noRow ∈ BIG := bw4 (i := 183) (by decide +kernel) (by decide +kernel)
theorem bmL_71 : Cond.methodLink RL 71 yX9_judge ∈ BIG := bw3 (i := 12) (by decide +kernel) (by decide +kernel)
theorem bmL_74 : Cond.methodLink RL 74 yX10_judge ∈ BIG := bw4 (i := 187) (by decide +kernel) (by decide +kernel)
theorem bmL_75 : Cond.methodLink RL 75 yX9_ways ∈ BIG := bw3 (i := 27) (by decide +kernel) (by decide +kernel)
theorem bmL_78 : Cond.methodLink RL 78 yX10_ways ∈ BIG := bw4 (i := 191) (by decide +kernel) (by decide +kernel)
theorem bmL_79 : Cond.methodLink RL 79 yX9_fewest ∈ BIG := bw3 (i := 50) (by decide +kernel) (by decide +kernel)
theorem bmL_82 : Cond.methodLink RL 82 yX10_fewest ∈ BIG := bw4 (i := 214) (by decide +kernel) (by decide +kernel)
theorem bmL_83 : Cond.methodLink RL 83 yX9_scrape ∈ BIG := bw3 (i := 64) (by decide +kernel) (by decide +kernel)
theorem bmL_86 : Cond.methodLink RL 86 yX10_scrape ∈ BIG := bw4 (i := 218) (by decide +kernel) (by decide +kernel)
theorem bmL_87 : Cond.methodLink RL 87 yX9_matters ∈ BIG := bw3 (i := 75) (by decide +kernel) (by decide +kernel)
theorem bmL_9 : Cond.methodLink RL 9 yX9_init ∈ BIG := bw1 (i := 18) (by decide +kernel) (by decide +kernel)
theorem bmL_90 : Cond.methodLink RL 90 yX10_matters ∈ BIG := bw4 (i := 230) (by decide +kernel) (by decide +kernel)
theorem bmL_91 : Cond.methodLink RL 91 yX9_beer ∈ BIG := bw3 (i := 82) (by decide +kernel) (by decide +kernel)
theorem bmL_94 : Cond.methodLink RL 94 yX10_beer ∈ BIG := bw4 (i := 234) (by decide +kernel) (by decide +kernel)
theorem bmL_95 : Cond.methodLink RL 95 yX9_white ∈ BIG := bw3 (i := 119) (by decide +kernel) (by decide +kernel)
theorem bmL_98 : Cond.methodLink RL 98 yX10_white ∈ BIG := bw5 (i := 14) (by decide +kernel) (by decide +kernel)
theorem bmL_99 : Cond.methodLink RL 99 yX9_orders ∈ BIG := bw3 (i := 128) (by decide +kernel) (by decide +kernel)
theorem bmX10_1 : Cond.methodLink RX10 1 Lib.objectInit ∈ BIG := bw3 (i := 232) (by decide +kernel) (by decide +kernel)
theorem bmX10_103 : Cond.methodLink RX10 103 yX10_isItem ∈ BIG := bw4 (i := 83) (by decide +kernel) (by decide +kernel)
theorem bmX10_107 : Cond.methodLink RX10 107 yX10_areWell ∈ BIG := bw4 (i := 111) (by decide +kernel) (by decide +kernel)
theorem bmX10_111 : Cond.methodLink RX10 111 yX10_fault ∈ BIG := bw4 (i := 106) (by decide +kernel) (by decide +kernel)
theorem bmX10_114 : Cond.methodLink RX10 114 yX10_isSound ∈ BIG := bw4 (i := 107) (by decide +kernel) (by decide +kernel)
theorem bmX10_117 : Cond.methodLink RX10 117 yX10_isStone ∈ BIG := bw4 (i := 119) (by decide +kernel) (by decide +kernel)
theorem bmX10_120 : Cond.methodLink RX10 120 yX10_isPaint ∈ BIG := bw4 (i := 127) (by decide +kernel) (by decide +kernel)
theorem bmX10_123 : Cond.methodLink RX10 123 yX10_isWell ∈ BIG := bw4 (i := 139) (by decide +kernel) (by decide +kernel)
theorem bmX10_127 : Cond.methodLink RX10 127 yX10_isMay ∈ BIG := bw4 (i := 135) (by decide +kernel) (by decide +kernel)
theorem bmX10_130 : Cond.methodLink RX10 130 yX10_copies ∈ BIG := bw4 (i := 151) (by decide +kernel) (by decide +kernel)
theorem bmX10_134 : Cond.methodLink RX10 134 yX10_known ∈ BIG := bw4 (i := 147) (by decide +kernel) (by decide +kernel)
theorem bmX10_137 : Cond.methodLink RX10 137 yX10_paints ∈ BIG := bw4 (i := 155) (by decide +kernel) (by decide +kernel)
theorem bmX10_141 : Cond.methodLink RX10 141 yX10_painted ∈ BIG := bw4 (i := 159) (by decide +kernel) (by decide +kernel)
theorem bmX10_144 : Cond.methodLink RX10 144 yX10_mays ∈ BIG := bw4 (i := 171) (by decide +kernel) (by decide +kernel)
theorem bmX10_150 : Cond.methodLink RX10 150 yX10_freed ∈ BIG := bw4 (i := 199) (by decide +kernel) (by decide +kernel)
theorem bmX10_156 : Cond.methodLink RX10 156 yX10_unlikes ∈ BIG := bw4 (i := 203) (by decide +kernel) (by decide +kernel)
theorem bmX10_159 : Cond.methodLink RX10 159 yX10_isNext ∈ BIG := bw4 (i := 210) (by decide +kernel) (by decide +kernel)
theorem bmX10_162 : Cond.methodLink RX10 162 yX10_many ∈ BIG := bw4 (i := 207) (by decide +kernel) (by decide +kernel)
theorem bmX10_165 : Cond.methodLink RX10 165 yX10_waysOf ∈ BIG := bw4 (i := 195) (by decide +kernel) (by decide +kernel)
theorem bmX10_168 : Cond.methodLink RX10 168 yX10_fresh ∈ BIG := bw4 (i := 222) (by decide +kernel) (by decide +kernel)
theorem bmX10_171 : Cond.methodLink RX10 171 yX10_without ∈ BIG := bw4 (i := 226) (by decide +kernel) (by decide +kernel)
theorem bmX10_174 : Cond.methodLink RX10 174 yX10_fills ∈ BIG := bw5 (i := 2) (by decide +kernel) (by decide +kernel)
theorem bmX10_177 : Cond.methodLink RX10 177 yX10_step ∈ BIG := bw5 (i := 6) (by decide +kernel) (by decide +kernel)
theorem bmX10_180 : Cond.methodLink RX10 180 yX10_plays ∈ BIG := bw4 (i := 238) (by decide +kernel) (by decide +kernel)
theorem bmX10_184 : Cond.methodLink RX10 184 yX10_wins ∈ BIG := bw5 (i := 10) (by decide +kernel) (by decide +kernel)
theorem bmX10_187 : Cond.methodLink RX10 187 yX10_isBy ∈ BIG := bw5 (i := 26) (by decide +kernel) (by decide +kernel)
theorem bmX10_190 : Cond.methodLink RX10 190 yX10_ordersOf ∈ BIG := bw5 (i := 22) (by decide +kernel) (by decide +kernel)
theorem bmX10_195 : Cond.methodLink RX10 195 yX10_takesBack ∈ BIG := bw5 (i := 44) (by decide +kernel) (by decide +kernel)
theorem bmX10_200 : Cond.methodLink RX10 200 yX10_stuckNext ∈ BIG := bw5 (i := 40) (by decide +kernel) (by decide +kernel)
theorem bmX10_212 : Cond.methodLink RX10 212 yX10_draws ∈ BIG := bw5 (i := 56) (by decide +kernel) (by decide +kernel)
theorem bmX10_52 : Cond.methodLink RX10 52 yX10_begins ∈ BIG := bw3 (i := 234) (by decide +kernel) (by decide +kernel)
theorem bmX10_55 : Cond.methodLink RX10 55 yX10_takes ∈ BIG := bw3 (i := 238) (by decide +kernel) (by decide +kernel)
theorem bmX10_60 : Cond.methodLink RX10 60 yX10_in ∈ BIG := bw4 (i := 72) (by decide +kernel) (by decide +kernel)
theorem bmX10_77 : Cond.methodLink RX10 77 yX10_numbers ∈ BIG := bw4 (i := 87) (by decide +kernel) (by decide +kernel)
theorem bmX10_81 : Cond.methodLink RX10 81 yX10_number ∈ BIG := bw4 (i := 90) (by decide +kernel) (by decide +kernel)
theorem bmX10_85 : Cond.methodLink RX10 85 yX10_isGood ∈ BIG := bw4 (i := 97) (by decide +kernel) (by decide +kernel)
theorem bcX0_init : Cond.code yX0_init cX0_init 1 none ∈ BIG := bw1 (i := 114) (by decide +kernel) (by decide +kernel)
theorem biX0_init : Cond.instanceMethod yX0_init ∈ BIG := bw1 (i := 113) (by decide +kernel) (by decide +kernel)
theorem bzX0 : Cond.initialized RX0 ∈ BIG := bw1 (i := 6) (by decide +kernel) (by decide +kernel)
theorem hX0_init : yX0_init.cls ≠ "java/lang/invoke/MethodHandle" ∧ yX0_init.cls ≠ "java/lang/invoke/VarHandle" ∧ (parseMethodDescriptor yX0_init.desc).map (fun d => d.parameters.length) = some 0 := by decide +kernel
theorem hpX0_init : plainName yX0_init.cls = true := by decide +kernel
theorem bcX0_forget : Cond.code yX0_forget cX0_forget 1 none ∈ BIG := bw2 (i := 136) (by decide +kernel) (by decide +kernel)
theorem biX0_forget : Cond.instanceMethod yX0_forget ∈ BIG := bw2 (i := 134) (by decide +kernel) (by decide +kernel)
theorem bsX0_forget : Cond.selects RX0 yX0_forget yX0_forget ∈ BIG := bw2 (i := 135) (by decide +kernel) (by decide +kernel)
theorem hX0_forget : yX0_forget.cls ≠ "java/lang/invoke/MethodHandle" ∧ yX0_forget.cls ≠ "java/lang/invoke/VarHandle" ∧ (parseMethodDescriptor yX0_forget.desc).map (fun d => d.parameters.length) = some 0 := by decide +kernel
theorem hpX0_forget : plainName yX0_forget.cls = true := by decide +kernel
theorem bcX0_getsHisWill : Cond.code yX0_getsHisWill cX0_getsHisWill 5 (some .boolean) ∈ BIG := bw3 (i := 127) (by decide +kernel) (by decide +kernel)
theorem biX0_getsHisWill : Cond.instanceMethod yX0_getsHisWill ∈ BIG := bw3 (i := 125) (by decide +kernel) (by decide +kernel)
theorem bsX0_getsHisWill : Cond.selects RX0 yX0_getsHisWill yX0_getsHisWill ∈ BIG := bw3 (i := 126) (by decide +kernel) (by decide +kernel)
theorem hX0_getsHisWill : yX0_getsHisWill.cls ≠ "java/lang/invoke/MethodHandle" ∧ yX0_getsHisWill.cls ≠ "java/lang/invoke/VarHandle" ∧ (parseMethodDescriptor yX0_getsHisWill.desc).map (fun d => d.parameters.length) = some 4 := by decide +kernel
theorem hpX0_getsHisWill : plainName yX0_getsHisWill.cls = true := by decide +kernel
theorem bcX0_lowestGood : Cond.code yX0_lowestGood cX0_lowestGood 11 (some .int) ∈ BIG := bw3 (i := 89) (by decide +kernel) (by decide +kernel)
theorem biX0_lowestGood : Cond.instanceMethod yX0_lowestGood ∈ BIG := bw3 (i := 87) (by decide +kernel) (by decide +kernel)
theorem bsX0_lowestGood : Cond.selects RX0 yX0_lowestGood yX0_lowestGood ∈ BIG := bw3 (i := 88) (by decide +kernel) (by decide +kernel)
theorem hX0_lowestGood : yX0_lowestGood.cls ≠ "java/lang/invoke/MethodHandle" ∧ yX0_lowestGood.cls ≠ "java/lang/invoke/VarHandle" ∧ (parseMethodDescriptor yX0_lowestGood.desc).map (fun d => d.parameters.length) = some 4 := by decide +kernel
theorem hpX0_lowestGood : plainName yX0_lowestGood.cls = true := by decide +kernel
theorem bcX0_fittingForSome : Cond.code yX0_fittingForSome cX0_fittingForSome 2 (some .int) ∈ BIG := bw3 (i := 92) (by decide +kernel) (by decide +kernel)
theorem btX0_fittingForSome : Cond.static yX0_fittingForSome ∈ BIG := bw3 (i := 91) (by decide +kernel) (by decide +kernel)
theorem hX0_fittingForSome : yX0_fittingForSome.cls ≠ "java/lang/invoke/MethodHandle" ∧ yX0_fittingForSome.cls ≠ "java/lang/invoke/VarHandle" ∧ (parseMethodDescriptor yX0_fittingForSome.desc).map (fun d => d.parameters.length) = some 2 := by decide +kernel
theorem hpX0_fittingForSome : plainName yX0_fittingForSome.cls = true := by decide +kernel
theorem bcX0_wins : Cond.code yX0_wins cX0_wins 10 (some .boolean) ∈ BIG := bw3 (i := 101) (by decide +kernel) (by decide +kernel)
theorem biX0_wins : Cond.instanceMethod yX0_wins ∈ BIG := bw3 (i := 100) (by decide +kernel) (by decide +kernel)
theorem bsX0_wins : Cond.selects RX0 yX0_wins yX0_wins ∈ BIG := bw0 (i := 15) (by decide +kernel) (by decide +kernel)
theorem hX0_wins : yX0_wins.cls ≠ "java/lang/invoke/MethodHandle" ∧ yX0_wins.cls ≠ "java/lang/invoke/VarHandle" ∧ (parseMethodDescriptor yX0_wins.desc).map (fun d => d.parameters.length) = some 6 := by decide +kernel
theorem hpX0_wins : plainName yX0_wins.cls = true := by decide +kernel
theorem bcX0_hasWinning : Cond.code yX0_hasWinning cX0_hasWinning 11 (some .boolean) ∈ BIG := bw3 (i := 114) (by decide +kernel) (by decide +kernel)
theorem biX0_hasWinning : Cond.instanceMethod yX0_hasWinning ∈ BIG := bw3 (i := 113) (by decide +kernel) (by decide +kernel)
theorem bsX0_hasWinning : Cond.selects RX0 yX0_hasWinning yX0_hasWinning ∈ BIG := bw0 (i := 17) (by decide +kernel) (by decide +kernel)
theorem hX0_hasWinning : yX0_hasWinning.cls ≠ "java/lang/invoke/MethodHandle" ∧ yX0_hasWinning.cls ≠ "java/lang/invoke/VarHandle" ∧ (parseMethodDescriptor yX0_hasWinning.desc).map (fun d => d.parameters.length) = some 6 := by decide +kernel
theorem hpX0_hasWinning : plainName yX0_hasWinning.cls = true := by decide +kernel
theorem bcX0_cellOf : Cond.code yX0_cellOf cX0_cellOf 1 (some .int) ∈ BIG := bw3 (i := 109) (by decide +kernel) (by decide +kernel)
theorem btX0_cellOf : Cond.static yX0_cellOf ∈ BIG := bw3 (i := 108) (by decide +kernel) (by decide +kernel)
theorem hX0_cellOf : yX0_cellOf.cls ≠ "java/lang/invoke/MethodHandle" ∧ yX0_cellOf.cls ≠ "java/lang/invoke/VarHandle" ∧ (parseMethodDescriptor yX0_cellOf.desc).map (fun d => d.parameters.length) = some 1 := by decide +kernel
theorem hpX0_cellOf : plainName yX0_cellOf.cls = true := by decide +kernel
theorem bcX0_recall : Cond.code yX0_recall cX0_recall 3 (some .int) ∈ BIG := bw3 (i := 106) (by decide +kernel) (by decide +kernel)
theorem biX0_recall : Cond.instanceMethod yX0_recall ∈ BIG := bw3 (i := 105) (by decide +kernel) (by decide +kernel)
theorem bsX0_recall : Cond.selects RX0 yX0_recall yX0_recall ∈ BIG := bw0 (i := 16) (by decide +kernel) (by decide +kernel)
theorem hX0_recall : yX0_recall.cls ≠ "java/lang/invoke/MethodHandle" ∧ yX0_recall.cls ≠ "java/lang/invoke/VarHandle" ∧ (parseMethodDescriptor yX0_recall.desc).map (fun d => d.parameters.length) = some 1 := by decide +kernel
theorem hpX0_recall : plainName yX0_recall.cls = true := by decide +kernel
theorem bcX0_note : Cond.code yX0_note cX0_note 4 none ∈ BIG := bw3 (i := 118) (by decide +kernel) (by decide +kernel)
theorem biX0_note : Cond.instanceMethod yX0_note ∈ BIG := bw3 (i := 117) (by decide +kernel) (by decide +kernel)
theorem bsX0_note : Cond.selects RX0 yX0_note yX0_note ∈ BIG := bw0 (i := 18) (by decide +kernel) (by decide +kernel)
theorem hX0_note : yX0_note.cls ≠ "java/lang/invoke/MethodHandle" ∧ yX0_note.cls ≠ "java/lang/invoke/VarHandle" ∧ (parseMethodDescriptor yX0_note.desc).map (fun d => d.parameters.length) = some 2 := by decide +kernel
theorem hpX0_note : plainName yX0_note.cls = true := by decide +kernel
theorem bcX1_init : Cond.code yX1_init cX1_init 1 none ∈ BIG := bw1 (i := 124) (by decide +kernel) (by decide +kernel)
theorem biX1_init : Cond.instanceMethod yX1_init ∈ BIG := bw1 (i := 123) (by decide +kernel) (by decide +kernel)
theorem bzX1 : Cond.initialized RX1 ∈ BIG := bw1 (i := 7) (by decide +kernel) (by decide +kernel)
theorem hX1_init : yX1_init.cls ≠ "java/lang/invoke/MethodHandle" ∧ yX1_init.cls ≠ "java/lang/invoke/VarHandle" ∧ (parseMethodDescriptor yX1_init.desc).map (fun d => d.parameters.length) = some 0 := by decide +kernel
theorem hpX1_init : plainName yX1_init.cls = true := by decide +kernel
theorem bcX1_chance : Cond.code yX1_chance cX1_chance 6 (some .long) ∈ BIG := bw3 (i := 172) (by decide +kernel) (by decide +kernel)
theorem biX1_chance : Cond.instanceMethod yX1_chance ∈ BIG := bw3 (i := 170) (by decide +kernel) (by decide +kernel)
theorem bsX1_chance : Cond.selects RX1 yX1_chance yX1_chance ∈ BIG := bw3 (i := 171) (by decide +kernel) (by decide +kernel)
theorem hX1_chance : yX1_chance.cls ≠ "java/lang/invoke/MethodHandle" ∧ yX1_chance.cls ≠ "java/lang/invoke/VarHandle" ∧ (parseMethodDescriptor yX1_chance.desc).map (fun d => d.parameters.length) = some 5 := by decide +kernel
theorem hpX1_chance : plainName yX1_chance.cls = true := by decide +kernel
theorem bcX1_weigh : Cond.code yX1_weigh cX1_weigh 5 none ∈ BIG := bw3 (i := 177) (by decide +kernel) (by decide +kernel)
theorem biX1_weigh : Cond.instanceMethod yX1_weigh ∈ BIG := bw3 (i := 176) (by decide +kernel) (by decide +kernel)
theorem bsX1_weigh : Cond.selects RX1 yX1_weigh yX1_weigh ∈ BIG := bw0 (i := 19) (by decide +kernel) (by decide +kernel)
theorem hX1_weigh : yX1_weigh.cls ≠ "java/lang/invoke/MethodHandle" ∧ yX1_weigh.cls ≠ "java/lang/invoke/VarHandle" ∧ (parseMethodDescriptor yX1_weigh.desc).map (fun d => d.parameters.length) = some 4 := by decide +kernel
theorem hpX1_weigh : plainName yX1_weigh.cls = true := by decide +kernel
theorem bcX1_weighAll : Cond.code yX1_weighAll cX1_weighAll 11 none ∈ BIG := bw3 (i := 189) (by decide +kernel) (by decide +kernel)
theorem biX1_weighAll : Cond.instanceMethod yX1_weighAll ∈ BIG := bw3 (i := 188) (by decide +kernel) (by decide +kernel)
theorem bsX1_weighAll : Cond.selects RX1 yX1_weighAll yX1_weighAll ∈ BIG := bw0 (i := 21) (by decide +kernel) (by decide +kernel)
theorem hX1_weighAll : yX1_weighAll.cls ≠ "java/lang/invoke/MethodHandle" ∧ yX1_weighAll.cls ≠ "java/lang/invoke/VarHandle" ∧ (parseMethodDescriptor yX1_weighAll.desc).map (fun d => d.parameters.length) = some 4 := by decide +kernel
theorem hpX1_weighAll : plainName yX1_weighAll.cls = true := by decide +kernel
theorem bcX1_settle : Cond.code yX1_settle cX1_settle 7 none ∈ BIG := bw3 (i := 182) (by decide +kernel) (by decide +kernel)
theorem biX1_settle : Cond.instanceMethod yX1_settle ∈ BIG := bw3 (i := 181) (by decide +kernel) (by decide +kernel)
theorem bsX1_settle : Cond.selects RX1 yX1_settle yX1_settle ∈ BIG := bw0 (i := 20) (by decide +kernel) (by decide +kernel)
theorem hX1_settle : yX1_settle.cls ≠ "java/lang/invoke/MethodHandle" ∧ yX1_settle.cls ≠ "java/lang/invoke/VarHandle" ∧ (parseMethodDescriptor yX1_settle.desc).map (fun d => d.parameters.length) = some 2 := by decide +kernel
theorem hpX1_settle : plainName yX1_settle.cls = true := by decide +kernel
theorem bcX1_commonPart : Cond.code yX1_commonPart cX1_commonPart 11 (some .long) ∈ BIG := bw3 (i := 185) (by decide +kernel) (by decide +kernel)
theorem btX1_commonPart : Cond.static yX1_commonPart ∈ BIG := bw3 (i := 184) (by decide +kernel) (by decide +kernel)
theorem hX1_commonPart : yX1_commonPart.cls ≠ "java/lang/invoke/MethodHandle" ∧ yX1_commonPart.cls ≠ "java/lang/invoke/VarHandle" ∧ (parseMethodDescriptor yX1_commonPart.desc).map (fun d => d.parameters.length) = some 2 := by decide +kernel
theorem hpX1_commonPart : plainName yX1_commonPart.cls = true := by decide +kernel
theorem bcX1_draw : Cond.code yX1_draw cX1_draw 14 (some .int) ∈ BIG := bw3 (i := 199) (by decide +kernel) (by decide +kernel)
theorem biX1_draw : Cond.instanceMethod yX1_draw ∈ BIG := bw3 (i := 197) (by decide +kernel) (by decide +kernel)
theorem bsX1_draw : Cond.selects RX1 yX1_draw yX1_draw ∈ BIG := bw3 (i := 198) (by decide +kernel) (by decide +kernel)
theorem hX1_draw : yX1_draw.cls ≠ "java/lang/invoke/MethodHandle" ∧ yX1_draw.cls ≠ "java/lang/invoke/VarHandle" ∧ (parseMethodDescriptor yX1_draw.desc).map (fun d => d.parameters.length) = some 5 := by decide +kernel
theorem hpX1_draw : plainName yX1_draw.cls = true := by decide +kernel
theorem bcX1_picked : Cond.code yX1_picked cX1_picked 6 (some .int) ∈ BIG := bw3 (i := 205) (by decide +kernel) (by decide +kernel)
theorem btX1_picked : Cond.static yX1_picked ∈ BIG := bw3 (i := 204) (by decide +kernel) (by decide +kernel)
theorem hX1_picked : yX1_picked.cls ≠ "java/lang/invoke/MethodHandle" ∧ yX1_picked.cls ≠ "java/lang/invoke/VarHandle" ∧ (parseMethodDescriptor yX1_picked.desc).map (fun d => d.parameters.length) = some 2 := by decide +kernel
theorem hpX1_picked : plainName yX1_picked.cls = true := by decide +kernel
theorem bcX2_ordersOf : Cond.code yX2_ordersOf cX2_ordersOf 6 (some .int) ∈ BIG := bw3 (i := 134) (by decide +kernel) (by decide +kernel)
theorem btX2_ordersOf : Cond.static yX2_ordersOf ∈ BIG := bw3 (i := 133) (by decide +kernel) (by decide +kernel)
theorem bzX2 : Cond.initialized RX2 ∈ BIG := bw1 (i := 15) (by decide +kernel) (by decide +kernel)
theorem hX2_ordersOf : yX2_ordersOf.cls ≠ "java/lang/invoke/MethodHandle" ∧ yX2_ordersOf.cls ≠ "java/lang/invoke/VarHandle" ∧ (parseMethodDescriptor yX2_ordersOf.desc).map (fun d => d.parameters.length) = some 2 := by decide +kernel
theorem hpX2_ordersOf : plainName yX2_ordersOf.cls = true := by decide +kernel
theorem bcX2_surelyBy : Cond.code yX2_surelyBy cX2_surelyBy 8 (some .int) ∈ BIG := bw3 (i := 162) (by decide +kernel) (by decide +kernel)
theorem btX2_surelyBy : Cond.static yX2_surelyBy ∈ BIG := bw3 (i := 161) (by decide +kernel) (by decide +kernel)
theorem hX2_surelyBy : yX2_surelyBy.cls ≠ "java/lang/invoke/MethodHandle" ∧ yX2_surelyBy.cls ≠ "java/lang/invoke/VarHandle" ∧ (parseMethodDescriptor yX2_surelyBy.desc).map (fun d => d.parameters.length) = some 3 := by decide +kernel
theorem hpX2_surelyBy : plainName yX2_surelyBy.cls = true := by decide +kernel
theorem bcX2_byOneAlone : Cond.code yX2_byOneAlone cX2_byOneAlone 3 (some .int) ∈ BIG := bw3 (i := 146) (by decide +kernel) (by decide +kernel)
theorem btX2_byOneAlone : Cond.static yX2_byOneAlone ∈ BIG := bw3 (i := 145) (by decide +kernel) (by decide +kernel)
theorem hX2_byOneAlone : yX2_byOneAlone.cls ≠ "java/lang/invoke/MethodHandle" ∧ yX2_byOneAlone.cls ≠ "java/lang/invoke/VarHandle" ∧ (parseMethodDescriptor yX2_byOneAlone.desc).map (fun d => d.parameters.length) = some 3 := by decide +kernel
theorem hpX2_byOneAlone : plainName yX2_byOneAlone.cls = true := by decide +kernel
theorem bcX2_byEither : Cond.code yX2_byEither cX2_byEither 2 (some .int) ∈ BIG := bw3 (i := 138) (by decide +kernel) (by decide +kernel)
theorem btX2_byEither : Cond.static yX2_byEither ∈ BIG := bw3 (i := 137) (by decide +kernel) (by decide +kernel)
theorem hX2_byEither : yX2_byEither.cls ≠ "java/lang/invoke/MethodHandle" ∧ yX2_byEither.cls ≠ "java/lang/invoke/VarHandle" ∧ (parseMethodDescriptor yX2_byEither.desc).map (fun d => d.parameters.length) = some 2 := by decide +kernel
theorem hpX2_byEither : plainName yX2_byEither.cls = true := by decide +kernel
theorem bcX2_byNeither : Cond.code yX2_byNeither cX2_byNeither 2 (some .int) ∈ BIG := bw3 (i := 149) (by decide +kernel) (by decide +kernel)
theorem btX2_byNeither : Cond.static yX2_byNeither ∈ BIG := bw3 (i := 148) (by decide +kernel) (by decide +kernel)
theorem hX2_byNeither : yX2_byNeither.cls ≠ "java/lang/invoke/MethodHandle" ∧ yX2_byNeither.cls ≠ "java/lang/invoke/VarHandle" ∧ (parseMethodDescriptor yX2_byNeither.desc).map (fun d => d.parameters.length) = some 2 := by decide +kernel
theorem hpX2_byNeither : plainName yX2_byNeither.cls = true := by decide +kernel
theorem bcX2_stonesIn : Cond.code yX2_stonesIn cX2_stonesIn 4 (some .int) ∈ BIG := bw3 (i := 142) (by decide +kernel) (by decide +kernel)
theorem btX2_stonesIn : Cond.static yX2_stonesIn ∈ BIG := bw3 (i := 141) (by decide +kernel) (by decide +kernel)
theorem hX2_stonesIn : yX2_stonesIn.cls ≠ "java/lang/invoke/MethodHandle" ∧ yX2_stonesIn.cls ≠ "java/lang/invoke/VarHandle" ∧ (parseMethodDescriptor yX2_stonesIn.desc).map (fun d => d.parameters.length) = some 2 := by decide +kernel
theorem hpX2_stonesIn : plainName yX2_stonesIn.cls = true := by decide +kernel
theorem bcX2_choose : Cond.code yX2_choose cX2_choose 4 (some .int) ∈ BIG := bw3 (i := 152) (by decide +kernel) (by decide +kernel)
theorem btX2_choose : Cond.static yX2_choose ∈ BIG := bw3 (i := 151) (by decide +kernel) (by decide +kernel)
theorem hX2_choose : yX2_choose.cls ≠ "java/lang/invoke/MethodHandle" ∧ yX2_choose.cls ≠ "java/lang/invoke/VarHandle" ∧ (parseMethodDescriptor yX2_choose.desc).map (fun d => d.parameters.length) = some 2 := by decide +kernel
theorem hpX2_choose : plainName yX2_choose.cls = true := by decide +kernel
theorem bcX2_rowsOf : Cond.code yX2_rowsOf cX2_rowsOf 3 (some .int) ∈ BIG := bw3 (i := 155) (by decide +kernel) (by decide +kernel)
theorem btX2_rowsOf : Cond.static yX2_rowsOf ∈ BIG := bw3 (i := 154) (by decide +kernel) (by decide +kernel)
theorem hX2_rowsOf : yX2_rowsOf.cls ≠ "java/lang/invoke/MethodHandle" ∧ yX2_rowsOf.cls ≠ "java/lang/invoke/VarHandle" ∧ (parseMethodDescriptor yX2_rowsOf.desc).map (fun d => d.parameters.length) = some 1 := by decide +kernel
theorem hpX2_rowsOf : plainName yX2_rowsOf.cls = true := by decide +kernel
theorem bcX3_init : Cond.code yX3_init cX3_init 1 none ∈ BIG := bw1 (i := 137) (by decide +kernel) (by decide +kernel)
theorem biX3_init : Cond.instanceMethod yX3_init ∈ BIG := bw1 (i := 136) (by decide +kernel) (by decide +kernel)
theorem bzX3 : Cond.initialized RX3 ∈ BIG := bw1 (i := 8) (by decide +kernel) (by decide +kernel)
theorem hX3_init : yX3_init.cls ≠ "java/lang/invoke/MethodHandle" ∧ yX3_init.cls ≠ "java/lang/invoke/VarHandle" ∧ (parseMethodDescriptor yX3_init.desc).map (fun d => d.parameters.length) = some 0 := by decide +kernel
theorem hpX3_init : plainName yX3_init.cls = true := by decide +kernel
theorem bcX3_clear : Cond.code yX3_clear cX3_clear 1 none ∈ BIG := bw1 (i := 142) (by decide +kernel) (by decide +kernel)
theorem biX3_clear : Cond.instanceMethod yX3_clear ∈ BIG := bw1 (i := 140) (by decide +kernel) (by decide +kernel)
theorem bsX3_clear : Cond.selects RX3 yX3_clear yX3_clear ∈ BIG := bw1 (i := 141) (by decide +kernel) (by decide +kernel)
theorem hX3_clear : yX3_clear.cls ≠ "java/lang/invoke/MethodHandle" ∧ yX3_clear.cls ≠ "java/lang/invoke/VarHandle" ∧ (parseMethodDescriptor yX3_clear.desc).map (fun d => d.parameters.length) = some 0 := by decide +kernel
theorem hpX3_clear : plainName yX3_clear.cls = true := by decide +kernel
theorem bcX3_stones : Cond.code yX3_stones cX3_stones 1 (some .int) ∈ BIG := bw1 (i := 150) (by decide +kernel) (by decide +kernel)
theorem biX3_stones : Cond.instanceMethod yX3_stones ∈ BIG := bw1 (i := 148) (by decide +kernel) (by decide +kernel)
theorem bsX3_stones : Cond.selects RX3 yX3_stones yX3_stones ∈ BIG := bw1 (i := 149) (by decide +kernel) (by decide +kernel)
theorem hX3_stones : yX3_stones.cls ≠ "java/lang/invoke/MethodHandle" ∧ yX3_stones.cls ≠ "java/lang/invoke/VarHandle" ∧ (parseMethodDescriptor yX3_stones.desc).map (fun d => d.parameters.length) = some 0 := by decide +kernel
theorem hpX3_stones : plainName yX3_stones.cls = true := by decide +kernel
theorem bcX3_hasStone : Cond.code yX3_hasStone cX3_hasStone 2 (some .boolean) ∈ BIG := bw2 (i := 97) (by decide +kernel) (by decide +kernel)
theorem biX3_hasStone : Cond.instanceMethod yX3_hasStone ∈ BIG := bw2 (i := 95) (by decide +kernel) (by decide +kernel)
theorem bsX3_hasStone : Cond.selects RX3 yX3_hasStone yX3_hasStone ∈ BIG := bw2 (i := 96) (by decide +kernel) (by decide +kernel)
theorem hX3_hasStone : yX3_hasStone.cls ≠ "java/lang/invoke/MethodHandle" ∧ yX3_hasStone.cls ≠ "java/lang/invoke/VarHandle" ∧ (parseMethodDescriptor yX3_hasStone.desc).map (fun d => d.parameters.length) = some 1 := by decide +kernel
theorem hpX3_hasStone : plainName yX3_hasStone.cls = true := by decide +kernel
theorem bcX3_hasPaint : Cond.code yX3_hasPaint cX3_hasPaint 2 (some .boolean) ∈ BIG := bw2 (i := 73) (by decide +kernel) (by decide +kernel)
theorem biX3_hasPaint : Cond.instanceMethod yX3_hasPaint ∈ BIG := bw2 (i := 71) (by decide +kernel) (by decide +kernel)
theorem bsX3_hasPaint : Cond.selects RX3 yX3_hasPaint yX3_hasPaint ∈ BIG := bw2 (i := 72) (by decide +kernel) (by decide +kernel)
theorem hX3_hasPaint : yX3_hasPaint.cls ≠ "java/lang/invoke/MethodHandle" ∧ yX3_hasPaint.cls ≠ "java/lang/invoke/VarHandle" ∧ (parseMethodDescriptor yX3_hasPaint.desc).map (fun d => d.parameters.length) = some 1 := by decide +kernel
theorem hpX3_hasPaint : plainName yX3_hasPaint.cls = true := by decide +kernel
theorem bcX3_allPaints : Cond.code yX3_allPaints cX3_allPaints 1 (some .int) ∈ BIG := bw1 (i := 154) (by decide +kernel) (by decide +kernel)
theorem biX3_allPaints : Cond.instanceMethod yX3_allPaints ∈ BIG := bw1 (i := 152) (by decide +kernel) (by decide +kernel)
theorem bsX3_allPaints : Cond.selects RX3 yX3_allPaints yX3_allPaints ∈ BIG := bw1 (i := 153) (by decide +kernel) (by decide +kernel)
theorem hX3_allPaints : yX3_allPaints.cls ≠ "java/lang/invoke/MethodHandle" ∧ yX3_allPaints.cls ≠ "java/lang/invoke/VarHandle" ∧ (parseMethodDescriptor yX3_allPaints.desc).map (fun d => d.parameters.length) = some 0 := by decide +kernel
theorem hpX3_allPaints : plainName yX3_allPaints.cls = true := by decide +kernel
theorem bcX3_paintsOf : Cond.code yX3_paintsOf cX3_paintsOf 2 (some .int) ∈ BIG := bw1 (i := 161) (by decide +kernel) (by decide +kernel)
theorem biX3_paintsOf : Cond.instanceMethod yX3_paintsOf ∈ BIG := bw1 (i := 159) (by decide +kernel) (by decide +kernel)
theorem bsX3_paintsOf : Cond.selects RX3 yX3_paintsOf yX3_paintsOf ∈ BIG := bw1 (i := 160) (by decide +kernel) (by decide +kernel)
theorem hX3_paintsOf : yX3_paintsOf.cls ≠ "java/lang/invoke/MethodHandle" ∧ yX3_paintsOf.cls ≠ "java/lang/invoke/VarHandle" ∧ (parseMethodDescriptor yX3_paintsOf.desc).map (fun d => d.parameters.length) = some 1 := by decide +kernel
theorem hpX3_paintsOf : plainName yX3_paintsOf.cls = true := by decide +kernel
theorem bcX3_paintingsOf : Cond.code yX3_paintingsOf cX3_paintingsOf 2 (some .int) ∈ BIG := bw2 (i := 174) (by decide +kernel) (by decide +kernel)
theorem biX3_paintingsOf : Cond.instanceMethod yX3_paintingsOf ∈ BIG := bw2 (i := 172) (by decide +kernel) (by decide +kernel)
theorem bsX3_paintingsOf : Cond.selects RX3 yX3_paintingsOf yX3_paintingsOf ∈ BIG := bw2 (i := 173) (by decide +kernel) (by decide +kernel)
theorem hX3_paintingsOf : yX3_paintingsOf.cls ≠ "java/lang/invoke/MethodHandle" ∧ yX3_paintingsOf.cls ≠ "java/lang/invoke/VarHandle" ∧ (parseMethodDescriptor yX3_paintingsOf.desc).map (fun d => d.parameters.length) = some 1 := by decide +kernel
theorem hpX3_paintingsOf : plainName yX3_paintingsOf.cls = true := by decide +kernel
theorem bcX3_setApart : Cond.code yX3_setApart cX3_setApart 3 none ∈ BIG := bw2 (i := 77) (by decide +kernel) (by decide +kernel)
theorem biX3_setApart : Cond.instanceMethod yX3_setApart ∈ BIG := bw2 (i := 75) (by decide +kernel) (by decide +kernel)
theorem bsX3_setApart : Cond.selects RX3 yX3_setApart yX3_setApart ∈ BIG := bw2 (i := 76) (by decide +kernel) (by decide +kernel)
theorem hX3_setApart : yX3_setApart.cls ≠ "java/lang/invoke/MethodHandle" ∧ yX3_setApart.cls ≠ "java/lang/invoke/VarHandle" ∧ (parseMethodDescriptor yX3_setApart.desc).map (fun d => d.parameters.length) = some 2 := by decide +kernel
theorem hpX3_setApart : plainName yX3_setApart.cls = true := by decide +kernel
theorem bcX3_setTogether : Cond.code yX3_setTogether cX3_setTogether 3 none ∈ BIG := bw2 (i := 81) (by decide +kernel) (by decide +kernel)
theorem biX3_setTogether : Cond.instanceMethod yX3_setTogether ∈ BIG := bw2 (i := 79) (by decide +kernel) (by decide +kernel)
theorem bsX3_setTogether : Cond.selects RX3 yX3_setTogether yX3_setTogether ∈ BIG := bw2 (i := 80) (by decide +kernel) (by decide +kernel)
theorem hX3_setTogether : yX3_setTogether.cls ≠ "java/lang/invoke/MethodHandle" ∧ yX3_setTogether.cls ≠ "java/lang/invoke/VarHandle" ∧ (parseMethodDescriptor yX3_setTogether.desc).map (fun d => d.parameters.length) = some 2 := by decide +kernel
theorem hpX3_setTogether : plainName yX3_setTogether.cls = true := by decide +kernel
theorem bcX3_mayTouch : Cond.code yX3_mayTouch cX3_mayTouch 3 (some .boolean) ∈ BIG := bw1 (i := 169) (by decide +kernel) (by decide +kernel)
theorem biX3_mayTouch : Cond.instanceMethod yX3_mayTouch ∈ BIG := bw1 (i := 167) (by decide +kernel) (by decide +kernel)
theorem bsX3_mayTouch : Cond.selects RX3 yX3_mayTouch yX3_mayTouch ∈ BIG := bw1 (i := 168) (by decide +kernel) (by decide +kernel)
theorem hX3_mayTouch : yX3_mayTouch.cls ≠ "java/lang/invoke/MethodHandle" ∧ yX3_mayTouch.cls ≠ "java/lang/invoke/VarHandle" ∧ (parseMethodDescriptor yX3_mayTouch.desc).map (fun d => d.parameters.length) = some 2 := by decide +kernel
theorem hpX3_mayTouch : plainName yX3_mayTouch.cls = true := by decide +kernel
theorem bcX3_setOld : Cond.code yX3_setOld cX3_setOld 3 none ∈ BIG := bw2 (i := 101) (by decide +kernel) (by decide +kernel)
theorem biX3_setOld : Cond.instanceMethod yX3_setOld ∈ BIG := bw2 (i := 99) (by decide +kernel) (by decide +kernel)
theorem bsX3_setOld : Cond.selects RX3 yX3_setOld yX3_setOld ∈ BIG := bw2 (i := 100) (by decide +kernel) (by decide +kernel)
theorem hX3_setOld : yX3_setOld.cls ≠ "java/lang/invoke/MethodHandle" ∧ yX3_setOld.cls ≠ "java/lang/invoke/VarHandle" ∧ (parseMethodDescriptor yX3_setOld.desc).map (fun d => d.parameters.length) = some 2 := by decide +kernel
theorem hpX3_setOld : plainName yX3_setOld.cls = true := by decide +kernel
theorem bcX3_setShut : Cond.code yX3_setShut cX3_setShut 2 none ∈ BIG := bw2 (i := 115) (by decide +kernel) (by decide +kernel)
theorem biX3_setShut : Cond.instanceMethod yX3_setShut ∈ BIG := bw2 (i := 113) (by decide +kernel) (by decide +kernel)
theorem bsX3_setShut : Cond.selects RX3 yX3_setShut yX3_setShut ∈ BIG := bw2 (i := 114) (by decide +kernel) (by decide +kernel)
theorem hX3_setShut : yX3_setShut.cls ≠ "java/lang/invoke/MethodHandle" ∧ yX3_setShut.cls ≠ "java/lang/invoke/VarHandle" ∧ (parseMethodDescriptor yX3_setShut.desc).map (fun d => d.parameters.length) = some 1 := by decide +kernel
theorem hpX3_setShut : plainName yX3_setShut.cls = true := by decide +kernel
theorem bcX3_settle : Cond.code yX3_settle cX3_settle 3 none ∈ BIG := bw1 (i := 146) (by decide +kernel) (by decide +kernel)
theorem biX3_settle : Cond.instanceMethod yX3_settle ∈ BIG := bw1 (i := 144) (by decide +kernel) (by decide +kernel)
theorem bsX3_settle : Cond.selects RX3 yX3_settle yX3_settle ∈ BIG := bw1 (i := 145) (by decide +kernel) (by decide +kernel)
theorem hX3_settle : yX3_settle.cls ≠ "java/lang/invoke/MethodHandle" ∧ yX3_settle.cls ≠ "java/lang/invoke/VarHandle" ∧ (parseMethodDescriptor yX3_settle.desc).map (fun d => d.parameters.length) = some 0 := by decide +kernel
theorem hpX3_settle : plainName yX3_settle.cls = true := by decide +kernel
theorem bcX3_ruledOutBy : Cond.code yX3_ruledOutBy cX3_ruledOutBy 5 (some .int) ∈ BIG := bw1 (i := 165) (by decide +kernel) (by decide +kernel)
theorem biX3_ruledOutBy : Cond.instanceMethod yX3_ruledOutBy ∈ BIG := bw1 (i := 164) (by decide +kernel) (by decide +kernel)
theorem bsX3_ruledOutBy : Cond.selects RX3 yX3_ruledOutBy yX3_ruledOutBy ∈ BIG := bw0 (i := 0) (by decide +kernel) (by decide +kernel)
theorem hX3_ruledOutBy : yX3_ruledOutBy.cls ≠ "java/lang/invoke/MethodHandle" ∧ yX3_ruledOutBy.cls ≠ "java/lang/invoke/VarHandle" ∧ (parseMethodDescriptor yX3_ruledOutBy.desc).map (fun d => d.parameters.length) = some 2 := by decide +kernel
theorem hpX3_ruledOutBy : plainName yX3_ruledOutBy.cls = true := by decide +kernel
theorem bcX3_near : Cond.code yX3_near cX3_near 5 (some .int) ∈ BIG := bw1 (i := 176) (by decide +kernel) (by decide +kernel)
theorem biX3_near : Cond.instanceMethod yX3_near ∈ BIG := bw1 (i := 174) (by decide +kernel) (by decide +kernel)
theorem bsX3_near : Cond.selects RX3 yX3_near yX3_near ∈ BIG := bw1 (i := 175) (by decide +kernel) (by decide +kernel)
theorem hX3_near : yX3_near.cls ≠ "java/lang/invoke/MethodHandle" ∧ yX3_near.cls ≠ "java/lang/invoke/VarHandle" ∧ (parseMethodDescriptor yX3_near.desc).map (fun d => d.parameters.length) = some 1 := by decide +kernel
theorem hpX3_near : plainName yX3_near.cls = true := by decide +kernel
theorem bcX3_oldOnesClash : Cond.code yX3_oldOnesClash cX3_oldOnesClash 3 (some .boolean) ∈ BIG := bw2 (i := 124) (by decide +kernel) (by decide +kernel)
theorem biX3_oldOnesClash : Cond.instanceMethod yX3_oldOnesClash ∈ BIG := bw2 (i := 122) (by decide +kernel) (by decide +kernel)
theorem bsX3_oldOnesClash : Cond.selects RX3 yX3_oldOnesClash yX3_oldOnesClash ∈ BIG := bw2 (i := 123) (by decide +kernel) (by decide +kernel)
theorem hX3_oldOnesClash : yX3_oldOnesClash.cls ≠ "java/lang/invoke/MethodHandle" ∧ yX3_oldOnesClash.cls ≠ "java/lang/invoke/VarHandle" ∧ (parseMethodDescriptor yX3_oldOnesClash.desc).map (fun d => d.parameters.length) = some 0 := by decide +kernel
theorem hpX3_oldOnesClash : plainName yX3_oldOnesClash.cls = true := by decide +kernel
theorem bcX3_bare : Cond.code yX3_bare cX3_bare 2 (some .int) ∈ BIG := bw3 (i := 38) (by decide +kernel) (by decide +kernel)
theorem biX3_bare : Cond.instanceMethod yX3_bare ∈ BIG := bw3 (i := 36) (by decide +kernel) (by decide +kernel)
theorem bsX3_bare : Cond.selects RX3 yX3_bare yX3_bare ∈ BIG := bw3 (i := 37) (by decide +kernel) (by decide +kernel)
theorem hX3_bare : yX3_bare.cls ≠ "java/lang/invoke/MethodHandle" ∧ yX3_bare.cls ≠ "java/lang/invoke/VarHandle" ∧ (parseMethodDescriptor yX3_bare.desc).map (fun d => d.parameters.length) = some 1 := by decide +kernel
theorem hpX3_bare : plainName yX3_bare.cls = true := by decide +kernel
theorem bcX3_fitting : Cond.code yX3_fitting cX3_fitting 4 (some .int) ∈ BIG := bw2 (i := 170) (by decide +kernel) (by decide +kernel)
theorem biX3_fitting : Cond.instanceMethod yX3_fitting ∈ BIG := bw2 (i := 168) (by decide +kernel) (by decide +kernel)
theorem bsX3_fitting : Cond.selects RX3 yX3_fitting yX3_fitting ∈ BIG := bw2 (i := 169) (by decide +kernel) (by decide +kernel)
theorem hX3_fitting : yX3_fitting.cls ≠ "java/lang/invoke/MethodHandle" ∧ yX3_fitting.cls ≠ "java/lang/invoke/VarHandle" ∧ (parseMethodDescriptor yX3_fitting.desc).map (fun d => d.parameters.length) = some 1 := by decide +kernel
theorem hpX3_fitting : plainName yX3_fitting.cls = true := by decide +kernel
theorem bcX3_fittingAfter : Cond.code yX3_fittingAfter cX3_fittingAfter 4 (some .int) ∈ BIG := bw3 (i := 25) (by decide +kernel) (by decide +kernel)
theorem biX3_fittingAfter : Cond.instanceMethod yX3_fittingAfter ∈ BIG := bw3 (i := 23) (by decide +kernel) (by decide +kernel)
theorem bsX3_fittingAfter : Cond.selects RX3 yX3_fittingAfter yX3_fittingAfter ∈ BIG := bw3 (i := 24) (by decide +kernel) (by decide +kernel)
theorem hX3_fittingAfter : yX3_fittingAfter.cls ≠ "java/lang/invoke/MethodHandle" ∧ yX3_fittingAfter.cls ≠ "java/lang/invoke/VarHandle" ∧ (parseMethodDescriptor yX3_fittingAfter.desc).map (fun d => d.parameters.length) = some 2 := by decide +kernel
theorem hpX3_fittingAfter : plainName yX3_fittingAfter.cls = true := by decide +kernel
theorem bcX3_pair : Cond.code yX3_pair cX3_pair 2 (some .int) ∈ BIG := bw1 (i := 172) (by decide +kernel) (by decide +kernel)
theorem btX3_pair : Cond.static yX3_pair ∈ BIG := bw1 (i := 171) (by decide +kernel) (by decide +kernel)
theorem hX3_pair : yX3_pair.cls ≠ "java/lang/invoke/MethodHandle" ∧ yX3_pair.cls ≠ "java/lang/invoke/VarHandle" ∧ (parseMethodDescriptor yX3_pair.desc).map (fun d => d.parameters.length) = some 2 := by decide +kernel
theorem hpX3_pair : plainName yX3_pair.cls = true := by decide +kernel
theorem bcX3_painting : Cond.code yX3_painting cX3_painting 2 (some .int) ∈ BIG := bw2 (i := 107) (by decide +kernel) (by decide +kernel)
theorem btX3_painting : Cond.static yX3_painting ∈ BIG := bw2 (i := 106) (by decide +kernel) (by decide +kernel)
theorem hX3_painting : yX3_painting.cls ≠ "java/lang/invoke/MethodHandle" ∧ yX3_painting.cls ≠ "java/lang/invoke/VarHandle" ∧ (parseMethodDescriptor yX3_painting.desc).map (fun d => d.parameters.length) = some 2 := by decide +kernel
theorem hpX3_painting : plainName yX3_painting.cls = true := by decide +kernel
theorem bcX3_inPaints : Cond.code yX3_inPaints cX3_inPaints 4 (some .int) ∈ BIG := bw1 (i := 157) (by decide +kernel) (by decide +kernel)
theorem btX3_inPaints : Cond.static yX3_inPaints ∈ BIG := bw1 (i := 156) (by decide +kernel) (by decide +kernel)
theorem hX3_inPaints : yX3_inPaints.cls ≠ "java/lang/invoke/MethodHandle" ∧ yX3_inPaints.cls ≠ "java/lang/invoke/VarHandle" ∧ (parseMethodDescriptor yX3_inPaints.desc).map (fun d => d.parameters.length) = some 2 := by decide +kernel
theorem hpX3_inPaints : plainName yX3_inPaints.cls = true := by decide +kernel
theorem bcX3_stonesWith : Cond.code yX3_stonesWith cX3_stonesWith 2 (some .int) ∈ BIG := bw3 (i := 44) (by decide +kernel) (by decide +kernel)
theorem btX3_stonesWith : Cond.static yX3_stonesWith ∈ BIG := bw3 (i := 43) (by decide +kernel) (by decide +kernel)
theorem hX3_stonesWith : yX3_stonesWith.cls ≠ "java/lang/invoke/MethodHandle" ∧ yX3_stonesWith.cls ≠ "java/lang/invoke/VarHandle" ∧ (parseMethodDescriptor yX3_stonesWith.desc).map (fun d => d.parameters.length) = some 2 := by decide +kernel
theorem hpX3_stonesWith : plainName yX3_stonesWith.cls = true := by decide +kernel
theorem bcX3_painted : Cond.code yX3_painted cX3_painted 1 (some .int) ∈ BIG := bw3 (i := 41) (by decide +kernel) (by decide +kernel)
theorem btX3_painted : Cond.static yX3_painted ∈ BIG := bw3 (i := 40) (by decide +kernel) (by decide +kernel)
theorem hX3_painted : yX3_painted.cls ≠ "java/lang/invoke/MethodHandle" ∧ yX3_painted.cls ≠ "java/lang/invoke/VarHandle" ∧ (parseMethodDescriptor yX3_painted.desc).map (fun d => d.parameters.length) = some 1 := by decide +kernel
theorem hpX3_painted : plainName yX3_painted.cls = true := by decide +kernel
theorem bcX3_withoutPaint : Cond.code yX3_withoutPaint cX3_withoutPaint 2 (some .int) ∈ BIG := bw2 (i := 104) (by decide +kernel) (by decide +kernel)
theorem btX3_withoutPaint : Cond.static yX3_withoutPaint ∈ BIG := bw2 (i := 103) (by decide +kernel) (by decide +kernel)
theorem hX3_withoutPaint : yX3_withoutPaint.cls ≠ "java/lang/invoke/MethodHandle" ∧ yX3_withoutPaint.cls ≠ "java/lang/invoke/VarHandle" ∧ (parseMethodDescriptor yX3_withoutPaint.desc).map (fun d => d.parameters.length) = some 2 := by decide +kernel
theorem hpX3_withoutPaint : plainName yX3_withoutPaint.cls = true := by decide +kernel
theorem bcX3_paintOn : Cond.code yX3_paintOn cX3_paintOn 3 (some .int) ∈ BIG := bw2 (i := 148) (by decide +kernel) (by decide +kernel)
theorem btX3_paintOn : Cond.static yX3_paintOn ∈ BIG := bw2 (i := 147) (by decide +kernel) (by decide +kernel)
theorem hX3_paintOn : yX3_paintOn.cls ≠ "java/lang/invoke/MethodHandle" ∧ yX3_paintOn.cls ≠ "java/lang/invoke/VarHandle" ∧ (parseMethodDescriptor yX3_paintOn.desc).map (fun d => d.parameters.length) = some 2 := by decide +kernel
theorem hpX3_paintOn : plainName yX3_paintOn.cls = true := by decide +kernel
theorem bcX3_paintsAt : Cond.code yX3_paintsAt cX3_paintsAt 3 (some .int) ∈ BIG := bw2 (i := 151) (by decide +kernel) (by decide +kernel)
theorem btX3_paintsAt : Cond.static yX3_paintsAt ∈ BIG := bw2 (i := 150) (by decide +kernel) (by decide +kernel)
theorem hX3_paintsAt : yX3_paintsAt.cls ≠ "java/lang/invoke/MethodHandle" ∧ yX3_paintsAt.cls ≠ "java/lang/invoke/VarHandle" ∧ (parseMethodDescriptor yX3_paintsAt.desc).map (fun d => d.parameters.length) = some 2 := by decide +kernel
theorem hpX3_paintsAt : plainName yX3_paintsAt.cls = true := by decide +kernel
theorem bcX4_init : Cond.code yX4_init cX4_init 1 none ∈ BIG := bw1 (i := 44) (by decide +kernel) (by decide +kernel)
theorem biX4_init : Cond.instanceMethod yX4_init ∈ BIG := bw1 (i := 43) (by decide +kernel) (by decide +kernel)
theorem bzX4 : Cond.initialized RX4 ∈ BIG := bw1 (i := 3) (by decide +kernel) (by decide +kernel)
theorem hX4_init : yX4_init.cls ≠ "java/lang/invoke/MethodHandle" ∧ yX4_init.cls ≠ "java/lang/invoke/VarHandle" ∧ (parseMethodDescriptor yX4_init.desc).map (fun d => d.parameters.length) = some 0 := by decide +kernel
theorem hpX4_init : plainName yX4_init.cls = true := by decide +kernel
theorem bcX4_faultIn : Cond.code yX4_faultIn cX4_faultIn 5 (some .int) ∈ BIG := bw2 (i := 37) (by decide +kernel) (by decide +kernel)
theorem biX4_faultIn : Cond.instanceMethod yX4_faultIn ∈ BIG := bw2 (i := 35) (by decide +kernel) (by decide +kernel)
theorem bsX4_faultIn : Cond.selects RX4 yX4_faultIn yX4_faultIn ∈ BIG := bw2 (i := 36) (by decide +kernel) (by decide +kernel)
theorem hX4_faultIn : yX4_faultIn.cls ≠ "java/lang/invoke/MethodHandle" ∧ yX4_faultIn.cls ≠ "java/lang/invoke/VarHandle" ∧ (parseMethodDescriptor yX4_faultIn.desc).map (fun d => d.parameters.length) = some 2 := by decide +kernel
theorem hpX4_faultIn : plainName yX4_faultIn.cls = true := by decide +kernel
theorem bcX4_item : Cond.code yX4_item cX4_item 4 (some .boolean) ∈ BIG := bw2 (i := 42) (by decide +kernel) (by decide +kernel)
theorem biX4_item : Cond.instanceMethod yX4_item ∈ BIG := bw2 (i := 41) (by decide +kernel) (by decide +kernel)
theorem bsX4_item : Cond.selects RX4 yX4_item yX4_item ∈ BIG := bw0 (i := 1) (by decide +kernel) (by decide +kernel)
theorem hX4_item : yX4_item.cls ≠ "java/lang/invoke/MethodHandle" ∧ yX4_item.cls ≠ "java/lang/invoke/VarHandle" ∧ (parseMethodDescriptor yX4_item.desc).map (fun d => d.parameters.length) = some 2 := by decide +kernel
theorem hpX4_item : plainName yX4_item.cls = true := by decide +kernel
theorem bcX4_number : Cond.code yX4_number cX4_number 5 (some .int) ∈ BIG := bw2 (i := 50) (by decide +kernel) (by decide +kernel)
theorem biX4_number : Cond.instanceMethod yX4_number ∈ BIG := bw2 (i := 49) (by decide +kernel) (by decide +kernel)
theorem bsX4_number : Cond.selects RX4 yX4_number yX4_number ∈ BIG := bw0 (i := 2) (by decide +kernel) (by decide +kernel)
theorem hX4_number : yX4_number.cls ≠ "java/lang/invoke/MethodHandle" ∧ yX4_number.cls ≠ "java/lang/invoke/VarHandle" ∧ (parseMethodDescriptor yX4_number.desc).map (fun d => d.parameters.length) = some 2 := by decide +kernel
theorem hpX4_number : plainName yX4_number.cls = true := by decide +kernel
theorem bcX4_isFigure : Cond.code yX4_isFigure cX4_isFigure 1 (some .boolean) ∈ BIG := bw2 (i := 53) (by decide +kernel) (by decide +kernel)
theorem btX4_isFigure : Cond.static yX4_isFigure ∈ BIG := bw2 (i := 52) (by decide +kernel) (by decide +kernel)
theorem hX4_isFigure : yX4_isFigure.cls ≠ "java/lang/invoke/MethodHandle" ∧ yX4_isFigure.cls ≠ "java/lang/invoke/VarHandle" ∧ (parseMethodDescriptor yX4_isFigure.desc).map (fun d => d.parameters.length) = some 1 := by decide +kernel
theorem hpX4_isFigure : plainName yX4_isFigure.cls = true := by decide +kernel
theorem bcX4_takes : Cond.code yX4_takes cX4_takes 3 (some .boolean) ∈ BIG := bw2 (i := 57) (by decide +kernel) (by decide +kernel)
theorem biX4_takes : Cond.instanceMethod yX4_takes ∈ BIG := bw2 (i := 56) (by decide +kernel) (by decide +kernel)
theorem bsX4_takes : Cond.selects RX4 yX4_takes yX4_takes ∈ BIG := bw0 (i := 3) (by decide +kernel) (by decide +kernel)
theorem hX4_takes : yX4_takes.cls ≠ "java/lang/invoke/MethodHandle" ∧ yX4_takes.cls ≠ "java/lang/invoke/VarHandle" ∧ (parseMethodDescriptor yX4_takes.desc).map (fun d => d.parameters.length) = some 2 := by decide +kernel
theorem hpX4_takes : plainName yX4_takes.cls = true := by decide +kernel
theorem bcX4_takesShape : Cond.code yX4_takesShape cX4_takesShape 2 (some .boolean) ∈ BIG := bw2 (i := 61) (by decide +kernel) (by decide +kernel)
theorem biX4_takesShape : Cond.instanceMethod yX4_takesShape ∈ BIG := bw2 (i := 60) (by decide +kernel) (by decide +kernel)
theorem bsX4_takesShape : Cond.selects RX4 yX4_takesShape yX4_takesShape ∈ BIG := bw0 (i := 4) (by decide +kernel) (by decide +kernel)
theorem hX4_takesShape : yX4_takesShape.cls ≠ "java/lang/invoke/MethodHandle" ∧ yX4_takesShape.cls ≠ "java/lang/invoke/VarHandle" ∧ (parseMethodDescriptor yX4_takesShape.desc).map (fun d => d.parameters.length) = some 1 := by decide +kernel
theorem hpX4_takesShape : plainName yX4_takesShape.cls = true := by decide +kernel
theorem bcX4_takesPaints : Cond.code yX4_takesPaints cX4_takesPaints 2 (some .boolean) ∈ BIG := bw2 (i := 65) (by decide +kernel) (by decide +kernel)
theorem biX4_takesPaints : Cond.instanceMethod yX4_takesPaints ∈ BIG := bw2 (i := 64) (by decide +kernel) (by decide +kernel)
theorem bsX4_takesPaints : Cond.selects RX4 yX4_takesPaints yX4_takesPaints ∈ BIG := bw0 (i := 5) (by decide +kernel) (by decide +kernel)
theorem hX4_takesPaints : yX4_takesPaints.cls ≠ "java/lang/invoke/MethodHandle" ∧ yX4_takesPaints.cls ≠ "java/lang/invoke/VarHandle" ∧ (parseMethodDescriptor yX4_takesPaints.desc).map (fun d => d.parameters.length) = some 1 := by decide +kernel
theorem hpX4_takesPaints : plainName yX4_takesPaints.cls = true := by decide +kernel
theorem bcX4_takesPair : Cond.code yX4_takesPair cX4_takesPair 3 (some .boolean) ∈ BIG := bw2 (i := 69) (by decide +kernel) (by decide +kernel)
theorem biX4_takesPair : Cond.instanceMethod yX4_takesPair ∈ BIG := bw2 (i := 68) (by decide +kernel) (by decide +kernel)
theorem bsX4_takesPair : Cond.selects RX4 yX4_takesPair yX4_takesPair ∈ BIG := bw0 (i := 6) (by decide +kernel) (by decide +kernel)
theorem hX4_takesPair : yX4_takesPair.cls ≠ "java/lang/invoke/MethodHandle" ∧ yX4_takesPair.cls ≠ "java/lang/invoke/VarHandle" ∧ (parseMethodDescriptor yX4_takesPair.desc).map (fun d => d.parameters.length) = some 2 := by decide +kernel
theorem hpX4_takesPair : plainName yX4_takesPair.cls = true := by decide +kernel
theorem bcX4_takesPainter : Cond.code yX4_takesPainter cX4_takesPainter 2 (some .boolean) ∈ BIG := bw2 (i := 85) (by decide +kernel) (by decide +kernel)
theorem biX4_takesPainter : Cond.instanceMethod yX4_takesPainter ∈ BIG := bw2 (i := 84) (by decide +kernel) (by decide +kernel)
theorem bsX4_takesPainter : Cond.selects RX4 yX4_takesPainter yX4_takesPainter ∈ BIG := bw0 (i := 7) (by decide +kernel) (by decide +kernel)
theorem hX4_takesPainter : yX4_takesPainter.cls ≠ "java/lang/invoke/MethodHandle" ∧ yX4_takesPainter.cls ≠ "java/lang/invoke/VarHandle" ∧ (parseMethodDescriptor yX4_takesPainter.desc).map (fun d => d.parameters.length) = some 1 := by decide +kernel
theorem hpX4_takesPainter : plainName yX4_takesPainter.cls = true := by decide +kernel
theorem bcX4_takesOld : Cond.code yX4_takesOld cX4_takesOld 2 (some .boolean) ∈ BIG := bw2 (i := 93) (by decide +kernel) (by decide +kernel)
theorem biX4_takesOld : Cond.instanceMethod yX4_takesOld ∈ BIG := bw2 (i := 92) (by decide +kernel) (by decide +kernel)
theorem bsX4_takesOld : Cond.selects RX4 yX4_takesOld yX4_takesOld ∈ BIG := bw0 (i := 8) (by decide +kernel) (by decide +kernel)
theorem hX4_takesOld : yX4_takesOld.cls ≠ "java/lang/invoke/MethodHandle" ∧ yX4_takesOld.cls ≠ "java/lang/invoke/VarHandle" ∧ (parseMethodDescriptor yX4_takesOld.desc).map (fun d => d.parameters.length) = some 1 := by decide +kernel
theorem hpX4_takesOld : plainName yX4_takesOld.cls = true := by decide +kernel
theorem bcX4_takesShut : Cond.code yX4_takesShut cX4_takesShut 2 (some .boolean) ∈ BIG := bw2 (i := 111) (by decide +kernel) (by decide +kernel)
theorem biX4_takesShut : Cond.instanceMethod yX4_takesShut ∈ BIG := bw2 (i := 110) (by decide +kernel) (by decide +kernel)
theorem bsX4_takesShut : Cond.selects RX4 yX4_takesShut yX4_takesShut ∈ BIG := bw0 (i := 9) (by decide +kernel) (by decide +kernel)
theorem hX4_takesShut : yX4_takesShut.cls ≠ "java/lang/invoke/MethodHandle" ∧ yX4_takesShut.cls ≠ "java/lang/invoke/VarHandle" ∧ (parseMethodDescriptor yX4_takesShut.desc).map (fun d => d.parameters.length) = some 1 := by decide +kernel
theorem hpX4_takesShut : plainName yX4_takesShut.cls = true := by decide +kernel
theorem bcX5_init : Cond.code yX5_init cX5_init 1 none ∈ BIG := bw1 (i := 99) (by decide +kernel) (by decide +kernel)
theorem biX5_init : Cond.instanceMethod yX5_init ∈ BIG := bw1 (i := 98) (by decide +kernel) (by decide +kernel)
theorem bzX5 : Cond.initialized RX5 ∈ BIG := bw1 (i := 5) (by decide +kernel) (by decide +kernel)
theorem hX5_init : yX5_init.cls ≠ "java/lang/invoke/MethodHandle" ∧ yX5_init.cls ≠ "java/lang/invoke/VarHandle" ∧ (parseMethodDescriptor yX5_init.desc).map (fun d => d.parameters.length) = some 0 := by decide +kernel
theorem hpX5_init : plainName yX5_init.cls = true := by decide +kernel
theorem bcX5_add : Cond.code yX5_add cX5_add 2 (some .int) ∈ BIG := bw3 (i := 7) (by decide +kernel) (by decide +kernel)
theorem biX5_add : Cond.instanceMethod yX5_add ∈ BIG := bw3 (i := 5) (by decide +kernel) (by decide +kernel)
theorem bsX5_add : Cond.selects RX5 yX5_add yX5_add ∈ BIG := bw3 (i := 6) (by decide +kernel) (by decide +kernel)
theorem hX5_add : yX5_add.cls ≠ "java/lang/invoke/MethodHandle" ∧ yX5_add.cls ≠ "java/lang/invoke/VarHandle" ∧ (parseMethodDescriptor yX5_add.desc).map (fun d => d.parameters.length) = some 1 := by decide +kernel
theorem hpX5_add : plainName yX5_add.cls = true := by decide +kernel
theorem bcX5_empty : Cond.code yX5_empty cX5_empty 2 (some .int) ∈ BIG := bw2 (i := 132) (by decide +kernel) (by decide +kernel)
theorem biX5_empty : Cond.instanceMethod yX5_empty ∈ BIG := bw2 (i := 130) (by decide +kernel) (by decide +kernel)
theorem bsX5_empty : Cond.selects RX5 yX5_empty yX5_empty ∈ BIG := bw2 (i := 131) (by decide +kernel) (by decide +kernel)
theorem hX5_empty : yX5_empty.cls ≠ "java/lang/invoke/MethodHandle" ∧ yX5_empty.cls ≠ "java/lang/invoke/VarHandle" ∧ (parseMethodDescriptor yX5_empty.desc).map (fun d => d.parameters.length) = some 0 := by decide +kernel
theorem hpX5_empty : plainName yX5_empty.cls = true := by decide +kernel
theorem bcX5_firstWrong : Cond.code yX5_firstWrong cX5_firstWrong 7 (some .int) ∈ BIG := bw3 (i := 19) (by decide +kernel) (by decide +kernel)
theorem biX5_firstWrong : Cond.instanceMethod yX5_firstWrong ∈ BIG := bw3 (i := 17) (by decide +kernel) (by decide +kernel)
theorem bsX5_firstWrong : Cond.selects RX5 yX5_firstWrong yX5_firstWrong ∈ BIG := bw3 (i := 18) (by decide +kernel) (by decide +kernel)
theorem hX5_firstWrong : yX5_firstWrong.cls ≠ "java/lang/invoke/MethodHandle" ∧ yX5_firstWrong.cls ≠ "java/lang/invoke/VarHandle" ∧ (parseMethodDescriptor yX5_firstWrong.desc).map (fun d => d.parameters.length) = some 3 := by decide +kernel
theorem hpX5_firstWrong : plainName yX5_firstWrong.cls = true := by decide +kernel
theorem bcX6_init : Cond.code yX6_init cX6_init 1 none ∈ BIG := bw1 (i := 28) (by decide +kernel) (by decide +kernel)
theorem biX6_init : Cond.instanceMethod yX6_init ∈ BIG := bw1 (i := 27) (by decide +kernel) (by decide +kernel)
theorem bzX6 : Cond.initialized RX6 ∈ BIG := bw1 (i := 2) (by decide +kernel) (by decide +kernel)
theorem hX6_init : yX6_init.cls ≠ "java/lang/invoke/MethodHandle" ∧ yX6_init.cls ≠ "java/lang/invoke/VarHandle" ∧ (parseMethodDescriptor yX6_init.desc).map (fun d => d.parameters.length) = some 0 := by decide +kernel
theorem hpX6_init : plainName yX6_init.cls = true := by decide +kernel
theorem bcX6_add : Cond.code yX6_add cX6_add 5 (some .int) ∈ BIG := bw2 (i := 21) (by decide +kernel) (by decide +kernel)
theorem biX6_add : Cond.instanceMethod yX6_add ∈ BIG := bw2 (i := 19) (by decide +kernel) (by decide +kernel)
theorem bsX6_add : Cond.selects RX6 yX6_add yX6_add ∈ BIG := bw2 (i := 20) (by decide +kernel) (by decide +kernel)
theorem hX6_add : yX6_add.cls ≠ "java/lang/invoke/MethodHandle" ∧ yX6_add.cls ≠ "java/lang/invoke/VarHandle" ∧ (parseMethodDescriptor yX6_add.desc).map (fun d => d.parameters.length) = some 2 := by decide +kernel
theorem hpX6_add : plainName yX6_add.cls = true := by decide +kernel
theorem bcX6_empty : Cond.code yX6_empty cX6_empty 2 (some .int) ∈ BIG := bw2 (i := 29) (by decide +kernel) (by decide +kernel)
theorem biX6_empty : Cond.instanceMethod yX6_empty ∈ BIG := bw2 (i := 27) (by decide +kernel) (by decide +kernel)
theorem bsX6_empty : Cond.selects RX6 yX6_empty yX6_empty ∈ BIG := bw2 (i := 28) (by decide +kernel) (by decide +kernel)
theorem hX6_empty : yX6_empty.cls ≠ "java/lang/invoke/MethodHandle" ∧ yX6_empty.cls ≠ "java/lang/invoke/VarHandle" ∧ (parseMethodDescriptor yX6_empty.desc).map (fun d => d.parameters.length) = some 0 := by decide +kernel
theorem hpX6_empty : plainName yX6_empty.cls = true := by decide +kernel
theorem bcX6_at : Cond.code yX6_at cX6_at 2 (some .int) ∈ BIG := bw2 (i := 46) (by decide +kernel) (by decide +kernel)
theorem biX6_at : Cond.instanceMethod yX6_at ∈ BIG := bw2 (i := 44) (by decide +kernel) (by decide +kernel)
theorem bsX6_at : Cond.selects RX6 yX6_at yX6_at ∈ BIG := bw2 (i := 45) (by decide +kernel) (by decide +kernel)
theorem hX6_at : yX6_at.cls ≠ "java/lang/invoke/MethodHandle" ∧ yX6_at.cls ≠ "java/lang/invoke/VarHandle" ∧ (parseMethodDescriptor yX6_at.desc).map (fun d => d.parameters.length) = some 1 := by decide +kernel
theorem hpX6_at : plainName yX6_at.cls = true := by decide +kernel
theorem bcX7_init : Cond.code yX7_init cX7_init 1 none ∈ BIG := bw1 (i := 66) (by decide +kernel) (by decide +kernel)
theorem biX7_init : Cond.instanceMethod yX7_init ∈ BIG := bw1 (i := 65) (by decide +kernel) (by decide +kernel)
theorem bzX7 : Cond.initialized RX7 ∈ BIG := bw1 (i := 4) (by decide +kernel) (by decide +kernel)
theorem hX7_init : yX7_init.cls ≠ "java/lang/invoke/MethodHandle" ∧ yX7_init.cls ≠ "java/lang/invoke/VarHandle" ∧ (parseMethodDescriptor yX7_init.desc).map (fun d => d.parameters.length) = some 0 := by decide +kernel
theorem hpX7_init : plainName yX7_init.cls = true := by decide +kernel
theorem bcX7_begin : Cond.code yX7_begin cX7_begin 2 none ∈ BIG := bw2 (i := 128) (by decide +kernel) (by decide +kernel)
theorem biX7_begin : Cond.instanceMethod yX7_begin ∈ BIG := bw2 (i := 126) (by decide +kernel) (by decide +kernel)
theorem bsX7_begin : Cond.selects RX7 yX7_begin yX7_begin ∈ BIG := bw2 (i := 127) (by decide +kernel) (by decide +kernel)
theorem hX7_begin : yX7_begin.cls ≠ "java/lang/invoke/MethodHandle" ∧ yX7_begin.cls ≠ "java/lang/invoke/VarHandle" ∧ (parseMethodDescriptor yX7_begin.desc).map (fun d => d.parameters.length) = some 1 := by decide +kernel
theorem hpX7_begin : plainName yX7_begin.cls = true := by decide +kernel
theorem bcX7_put : Cond.code yX7_put cX7_put 3 none ∈ BIG := bw2 (i := 184) (by decide +kernel) (by decide +kernel)
theorem biX7_put : Cond.instanceMethod yX7_put ∈ BIG := bw2 (i := 182) (by decide +kernel) (by decide +kernel)
theorem bsX7_put : Cond.selects RX7 yX7_put yX7_put ∈ BIG := bw2 (i := 183) (by decide +kernel) (by decide +kernel)
theorem hX7_put : yX7_put.cls ≠ "java/lang/invoke/MethodHandle" ∧ yX7_put.cls ≠ "java/lang/invoke/VarHandle" ∧ (parseMethodDescriptor yX7_put.desc).map (fun d => d.parameters.length) = some 2 := by decide +kernel
theorem hpX7_put : plainName yX7_put.cls = true := by decide +kernel
theorem bcX7_washOff : Cond.code yX7_washOff cX7_washOff 4 none ∈ BIG := bw2 (i := 216) (by decide +kernel) (by decide +kernel)
theorem biX7_washOff : Cond.instanceMethod yX7_washOff ∈ BIG := bw2 (i := 214) (by decide +kernel) (by decide +kernel)
theorem bsX7_washOff : Cond.selects RX7 yX7_washOff yX7_washOff ∈ BIG := bw2 (i := 215) (by decide +kernel) (by decide +kernel)
theorem hX7_washOff : yX7_washOff.cls ≠ "java/lang/invoke/MethodHandle" ∧ yX7_washOff.cls ≠ "java/lang/invoke/VarHandle" ∧ (parseMethodDescriptor yX7_washOff.desc).map (fun d => d.parameters.length) = some 1 := by decide +kernel
theorem hpX7_washOff : plainName yX7_washOff.cls = true := by decide +kernel
theorem bcX7_skip : Cond.code yX7_skip cX7_skip 1 none ∈ BIG := bw2 (i := 226) (by decide +kernel) (by decide +kernel)
theorem biX7_skip : Cond.instanceMethod yX7_skip ∈ BIG := bw2 (i := 224) (by decide +kernel) (by decide +kernel)
theorem bsX7_skip : Cond.selects RX7 yX7_skip yX7_skip ∈ BIG := bw2 (i := 225) (by decide +kernel) (by decide +kernel)
theorem hX7_skip : yX7_skip.cls ≠ "java/lang/invoke/MethodHandle" ∧ yX7_skip.cls ≠ "java/lang/invoke/VarHandle" ∧ (parseMethodDescriptor yX7_skip.desc).map (fun d => d.parameters.length) = some 0 := by decide +kernel
theorem hpX7_skip : plainName yX7_skip.cls = true := by decide +kernel
theorem bcX7_stepBack : Cond.code yX7_stepBack cX7_stepBack 2 (some .int) ∈ BIG := bw2 (i := 234) (by decide +kernel) (by decide +kernel)
theorem biX7_stepBack : Cond.instanceMethod yX7_stepBack ∈ BIG := bw2 (i := 232) (by decide +kernel) (by decide +kernel)
theorem bsX7_stepBack : Cond.selects RX7 yX7_stepBack yX7_stepBack ∈ BIG := bw2 (i := 233) (by decide +kernel) (by decide +kernel)
theorem hX7_stepBack : yX7_stepBack.cls ≠ "java/lang/invoke/MethodHandle" ∧ yX7_stepBack.cls ≠ "java/lang/invoke/VarHandle" ∧ (parseMethodDescriptor yX7_stepBack.desc).map (fun d => d.parameters.length) = some 0 := by decide +kernel
theorem hpX7_stepBack : plainName yX7_stepBack.cls = true := by decide +kernel
theorem bcX7_hold : Cond.code yX7_hold cX7_hold 1 (some .int) ∈ BIG := bw3 (i := 214) (by decide +kernel) (by decide +kernel)
theorem biX7_hold : Cond.instanceMethod yX7_hold ∈ BIG := bw3 (i := 212) (by decide +kernel) (by decide +kernel)
theorem bsX7_hold : Cond.selects RX7 yX7_hold yX7_hold ∈ BIG := bw3 (i := 213) (by decide +kernel) (by decide +kernel)
theorem hX7_hold : yX7_hold.cls ≠ "java/lang/invoke/MethodHandle" ∧ yX7_hold.cls ≠ "java/lang/invoke/VarHandle" ∧ (parseMethodDescriptor yX7_hold.desc).map (fun d => d.parameters.length) = some 0 := by decide +kernel
theorem hpX7_hold : plainName yX7_hold.cls = true := by decide +kernel
theorem bcX7_takeHeld : Cond.code yX7_takeHeld cX7_takeHeld 2 (some .int) ∈ BIG := bw3 (i := 222) (by decide +kernel) (by decide +kernel)
theorem biX7_takeHeld : Cond.instanceMethod yX7_takeHeld ∈ BIG := bw3 (i := 220) (by decide +kernel) (by decide +kernel)
theorem bsX7_takeHeld : Cond.selects RX7 yX7_takeHeld yX7_takeHeld ∈ BIG := bw3 (i := 221) (by decide +kernel) (by decide +kernel)
theorem hX7_takeHeld : yX7_takeHeld.cls ≠ "java/lang/invoke/MethodHandle" ∧ yX7_takeHeld.cls ≠ "java/lang/invoke/VarHandle" ∧ (parseMethodDescriptor yX7_takeHeld.desc).map (fun d => d.parameters.length) = some 0 := by decide +kernel
theorem hpX7_takeHeld : plainName yX7_takeHeld.cls = true := by decide +kernel
theorem bcX7_noteForUndo : Cond.code yX7_noteForUndo cX7_noteForUndo 1 none ∈ BIG := bw2 (i := 188) (by decide +kernel) (by decide +kernel)
theorem biX7_noteForUndo : Cond.instanceMethod yX7_noteForUndo ∈ BIG := bw2 (i := 187) (by decide +kernel) (by decide +kernel)
theorem bsX7_noteForUndo : Cond.selects RX7 yX7_noteForUndo yX7_noteForUndo ∈ BIG := bw0 (i := 11) (by decide +kernel) (by decide +kernel)
theorem hX7_noteForUndo : yX7_noteForUndo.cls ≠ "java/lang/invoke/MethodHandle" ∧ yX7_noteForUndo.cls ≠ "java/lang/invoke/VarHandle" ∧ (parseMethodDescriptor yX7_noteForUndo.desc).map (fun d => d.parameters.length) = some 0 := by decide +kernel
theorem hpX7_noteForUndo : plainName yX7_noteForUndo.cls = true := by decide +kernel
theorem bcX7_packed : Cond.code yX7_packed cX7_packed 1 (some .long) ∈ BIG := bw2 (i := 195) (by decide +kernel) (by decide +kernel)
theorem biX7_packed : Cond.instanceMethod yX7_packed ∈ BIG := bw2 (i := 194) (by decide +kernel) (by decide +kernel)
theorem bsX7_packed : Cond.selects RX7 yX7_packed yX7_packed ∈ BIG := bw0 (i := 12) (by decide +kernel) (by decide +kernel)
theorem hX7_packed : yX7_packed.cls ≠ "java/lang/invoke/MethodHandle" ∧ yX7_packed.cls ≠ "java/lang/invoke/VarHandle" ∧ (parseMethodDescriptor yX7_packed.desc).map (fun d => d.parameters.length) = some 0 := by decide +kernel
theorem hpX7_packed : plainName yX7_packed.cls = true := by decide +kernel
theorem bcX7_standAs : Cond.code yX7_standAs cX7_standAs 3 none ∈ BIG := bw2 (i := 238) (by decide +kernel) (by decide +kernel)
theorem biX7_standAs : Cond.instanceMethod yX7_standAs ∈ BIG := bw2 (i := 237) (by decide +kernel) (by decide +kernel)
theorem bsX7_standAs : Cond.selects RX7 yX7_standAs yX7_standAs ∈ BIG := bw0 (i := 14) (by decide +kernel) (by decide +kernel)
theorem hX7_standAs : yX7_standAs.cls ≠ "java/lang/invoke/MethodHandle" ∧ yX7_standAs.cls ≠ "java/lang/invoke/VarHandle" ∧ (parseMethodDescriptor yX7_standAs.desc).map (fun d => d.parameters.length) = some 1 := by decide +kernel
theorem hpX7_standAs : plainName yX7_standAs.cls = true := by decide +kernel
theorem bcX8_waysToFill : Cond.code yX8_waysToFill cX8_waysToFill 2 (some .int) ∈ BIG := bw3 (i := 33) (by decide +kernel) (by decide +kernel)
theorem btX8_waysToFill : Cond.static yX8_waysToFill ∈ BIG := bw3 (i := 32) (by decide +kernel) (by decide +kernel)
theorem bzX8 : Cond.initialized RX8 ∈ BIG := bw1 (i := 14) (by decide +kernel) (by decide +kernel)
theorem hX8_waysToFill : yX8_waysToFill.cls ≠ "java/lang/invoke/MethodHandle" ∧ yX8_waysToFill.cls ≠ "java/lang/invoke/VarHandle" ∧ (parseMethodDescriptor yX8_waysToFill.desc).map (fun d => d.parameters.length) = some 2 := by decide +kernel
theorem hpX8_waysToFill : plainName yX8_waysToFill.cls = true := by decide +kernel
theorem bcX8_canBeDone : Cond.code yX8_canBeDone cX8_canBeDone 2 (some .boolean) ∈ BIG := bw3 (i := 74) (by decide +kernel) (by decide +kernel)
theorem btX8_canBeDone : Cond.static yX8_canBeDone ∈ BIG := bw3 (i := 73) (by decide +kernel) (by decide +kernel)
theorem hX8_canBeDone : yX8_canBeDone.cls ≠ "java/lang/invoke/MethodHandle" ∧ yX8_canBeDone.cls ≠ "java/lang/invoke/VarHandle" ∧ (parseMethodDescriptor yX8_canBeDone.desc).map (fun d => d.parameters.length) = some 2 := by decide +kernel
theorem hpX8_canBeDone : plainName yX8_canBeDone.cls = true := by decide +kernel
theorem bcX8_fillings : Cond.code yX8_fillings cX8_fillings 9 (some .int) ∈ BIG := bw3 (i := 47) (by decide +kernel) (by decide +kernel)
theorem btX8_fillings : Cond.static yX8_fillings ∈ BIG := bw3 (i := 46) (by decide +kernel) (by decide +kernel)
theorem hX8_fillings : yX8_fillings.cls ≠ "java/lang/invoke/MethodHandle" ∧ yX8_fillings.cls ≠ "java/lang/invoke/VarHandle" ∧ (parseMethodDescriptor yX8_fillings.desc).map (fun d => d.parameters.length) = some 5 := by decide +kernel
theorem hpX8_fillings : plainName yX8_fillings.cls = true := by decide +kernel
theorem bcX8_fewestPaints : Cond.code yX8_fewestPaints cX8_fewestPaints 8 (some .int) ∈ BIG := bw3 (i := 56) (by decide +kernel) (by decide +kernel)
theorem btX8_fewestPaints : Cond.static yX8_fewestPaints ∈ BIG := bw3 (i := 55) (by decide +kernel) (by decide +kernel)
theorem hX8_fewestPaints : yX8_fewestPaints.cls ≠ "java/lang/invoke/MethodHandle" ∧ yX8_fewestPaints.cls ≠ "java/lang/invoke/VarHandle" ∧ (parseMethodDescriptor yX8_fewestPaints.desc).map (fun d => d.parameters.length) = some 2 := by decide +kernel
theorem hpX8_fewestPaints : plainName yX8_fewestPaints.cls = true := by decide +kernel
theorem bcX8_paintsIn : Cond.code yX8_paintsIn cX8_paintsIn 3 (some .int) ∈ BIG := bw3 (i := 59) (by decide +kernel) (by decide +kernel)
theorem btX8_paintsIn : Cond.static yX8_paintsIn ∈ BIG := bw3 (i := 58) (by decide +kernel) (by decide +kernel)
theorem hX8_paintsIn : yX8_paintsIn.cls ≠ "java/lang/invoke/MethodHandle" ∧ yX8_paintsIn.cls ≠ "java/lang/invoke/VarHandle" ∧ (parseMethodDescriptor yX8_paintsIn.desc).map (fun d => d.parameters.length) = some 1 := by decide +kernel
theorem hpX8_paintsIn : plainName yX8_paintsIn.cls = true := by decide +kernel
theorem bcX8_leastScraped : Cond.code yX8_leastScraped cX8_leastScraped 6 (some .int) ∈ BIG := bw3 (i := 70) (by decide +kernel) (by decide +kernel)
theorem btX8_leastScraped : Cond.static yX8_leastScraped ∈ BIG := bw3 (i := 69) (by decide +kernel) (by decide +kernel)
theorem hX8_leastScraped : yX8_leastScraped.cls ≠ "java/lang/invoke/MethodHandle" ∧ yX8_leastScraped.cls ≠ "java/lang/invoke/VarHandle" ∧ (parseMethodDescriptor yX8_leastScraped.desc).map (fun d => d.parameters.length) = some 2 := by decide +kernel
theorem hpX8_leastScraped : plainName yX8_leastScraped.cls = true := by decide +kernel
theorem bcX8_mattering : Cond.code yX8_mattering cX8_mattering 6 (some .int) ∈ BIG := bw3 (i := 81) (by decide +kernel) (by decide +kernel)
theorem btX8_mattering : Cond.static yX8_mattering ∈ BIG := bw3 (i := 80) (by decide +kernel) (by decide +kernel)
theorem hX8_mattering : yX8_mattering.cls ≠ "java/lang/invoke/MethodHandle" ∧ yX8_mattering.cls ≠ "java/lang/invoke/VarHandle" ∧ (parseMethodDescriptor yX8_mattering.desc).map (fun d => d.parameters.length) = some 2 := by decide +kernel
theorem hpX8_mattering : plainName yX8_mattering.cls = true := by decide +kernel
theorem bcX9_init : Cond.code yX9_init cX9_init 1 none ∈ BIG := bw1 (i := 20) (by decide +kernel) (by decide +kernel)
theorem biX9_init : Cond.instanceMethod yX9_init ∈ BIG := bw1 (i := 19) (by decide +kernel) (by decide +kernel)
theorem bzX9 : Cond.initialized RX9 ∈ BIG := bw1 (i := 1) (by decide +kernel) (by decide +kernel)
theorem hX9_init : yX9_init.cls ≠ "java/lang/invoke/MethodHandle" ∧ yX9_init.cls ≠ "java/lang/invoke/VarHandle" ∧ (parseMethodDescriptor yX9_init.desc).map (fun d => d.parameters.length) = some 0 := by decide +kernel
theorem hpX9_init : plainName yX9_init.cls = true := by decide +kernel
theorem bcX9_write : Cond.code yX9_write cX9_write 4 (some .int) ∈ BIG := bw2 (i := 17) (by decide +kernel) (by decide +kernel)
theorem biX9_write : Cond.instanceMethod yX9_write ∈ BIG := bw2 (i := 15) (by decide +kernel) (by decide +kernel)
theorem bsX9_write : Cond.selects RX9 yX9_write yX9_write ∈ BIG := bw2 (i := 16) (by decide +kernel) (by decide +kernel)
theorem hX9_write : yX9_write.cls ≠ "java/lang/invoke/MethodHandle" ∧ yX9_write.cls ≠ "java/lang/invoke/VarHandle" ∧ (parseMethodDescriptor yX9_write.desc).map (fun d => d.parameters.length) = some 2 := by decide +kernel
theorem hpX9_write : plainName yX9_write.cls = true := by decide +kernel
theorem bcX9_wipe : Cond.code yX9_wipe cX9_wipe 1 (some .int) ∈ BIG := bw2 (i := 25) (by decide +kernel) (by decide +kernel)
theorem biX9_wipe : Cond.instanceMethod yX9_wipe ∈ BIG := bw2 (i := 23) (by decide +kernel) (by decide +kernel)
theorem bsX9_wipe : Cond.selects RX9 yX9_wipe yX9_wipe ∈ BIG := bw2 (i := 24) (by decide +kernel) (by decide +kernel)
theorem hX9_wipe : yX9_wipe.cls ≠ "java/lang/invoke/MethodHandle" ∧ yX9_wipe.cls ≠ "java/lang/invoke/VarHandle" ∧ (parseMethodDescriptor yX9_wipe.desc).map (fun d => d.parameters.length) = some 0 := by decide +kernel
theorem hpX9_wipe : plainName yX9_wipe.cls = true := by decide +kernel
theorem bcX9_fault : Cond.code yX9_fault cX9_fault 1 (some .int) ∈ BIG := bw2 (i := 33) (by decide +kernel) (by decide +kernel)
theorem biX9_fault : Cond.instanceMethod yX9_fault ∈ BIG := bw2 (i := 31) (by decide +kernel) (by decide +kernel)
theorem bsX9_fault : Cond.selects RX9 yX9_fault yX9_fault ∈ BIG := bw2 (i := 32) (by decide +kernel) (by decide +kernel)
theorem hX9_fault : yX9_fault.cls ≠ "java/lang/invoke/MethodHandle" ∧ yX9_fault.cls ≠ "java/lang/invoke/VarHandle" ∧ (parseMethodDescriptor yX9_fault.desc).map (fun d => d.parameters.length) = some 0 := by decide +kernel
theorem hpX9_fault : plainName yX9_fault.cls = true := by decide +kernel
theorem bcX9_lay : Cond.code yX9_lay cX9_lay 2 (some .int) ∈ BIG := bw2 (i := 119) (by decide +kernel) (by decide +kernel)
theorem biX9_lay : Cond.instanceMethod yX9_lay ∈ BIG := bw2 (i := 117) (by decide +kernel) (by decide +kernel)
theorem bsX9_lay : Cond.selects RX9 yX9_lay yX9_lay ∈ BIG := bw2 (i := 118) (by decide +kernel) (by decide +kernel)
theorem hX9_lay : yX9_lay.cls ≠ "java/lang/invoke/MethodHandle" ∧ yX9_lay.cls ≠ "java/lang/invoke/VarHandle" ∧ (parseMethodDescriptor yX9_lay.desc).map (fun d => d.parameters.length) = some 0 := by decide +kernel
theorem hpX9_lay : plainName yX9_lay.cls = true := by decide +kernel
theorem bcX9_stone : Cond.code yX9_stone cX9_stone 3 (some .int) ∈ BIG := bw2 (i := 144) (by decide +kernel) (by decide +kernel)
theorem biX9_stone : Cond.instanceMethod yX9_stone ∈ BIG := bw2 (i := 142) (by decide +kernel) (by decide +kernel)
theorem bsX9_stone : Cond.selects RX9 yX9_stone yX9_stone ∈ BIG := bw2 (i := 143) (by decide +kernel) (by decide +kernel)
theorem hX9_stone : yX9_stone.cls ≠ "java/lang/invoke/MethodHandle" ∧ yX9_stone.cls ≠ "java/lang/invoke/VarHandle" ∧ (parseMethodDescriptor yX9_stone.desc).map (fun d => d.parameters.length) = some 2 := by decide +kernel
theorem hpX9_stone : plainName yX9_stone.cls = true := by decide +kernel
theorem bcX9_touch : Cond.code yX9_touch cX9_touch 3 (some .int) ∈ BIG := bw2 (i := 156) (by decide +kernel) (by decide +kernel)
theorem biX9_touch : Cond.instanceMethod yX9_touch ∈ BIG := bw2 (i := 154) (by decide +kernel) (by decide +kernel)
theorem bsX9_touch : Cond.selects RX9 yX9_touch yX9_touch ∈ BIG := bw2 (i := 155) (by decide +kernel) (by decide +kernel)
theorem hX9_touch : yX9_touch.cls ≠ "java/lang/invoke/MethodHandle" ∧ yX9_touch.cls ≠ "java/lang/invoke/VarHandle" ∧ (parseMethodDescriptor yX9_touch.desc).map (fun d => d.parameters.length) = some 2 := by decide +kernel
theorem hpX9_touch : plainName yX9_touch.cls = true := by decide +kernel
theorem bcX9_may : Cond.code yX9_may cX9_may 2 (some .int) ∈ BIG := bw2 (i := 162) (by decide +kernel) (by decide +kernel)
theorem biX9_may : Cond.instanceMethod yX9_may ∈ BIG := bw2 (i := 160) (by decide +kernel) (by decide +kernel)
theorem bsX9_may : Cond.selects RX9 yX9_may yX9_may ∈ BIG := bw2 (i := 161) (by decide +kernel) (by decide +kernel)
theorem hX9_may : yX9_may.cls ≠ "java/lang/invoke/MethodHandle" ∧ yX9_may.cls ≠ "java/lang/invoke/VarHandle" ∧ (parseMethodDescriptor yX9_may.desc).map (fun d => d.parameters.length) = some 1 := by decide +kernel
theorem hpX9_may : plainName yX9_may.cls = true := by decide +kernel
theorem bcX9_paint : Cond.code yX9_paint cX9_paint 4 (some .int) ∈ BIG := bw2 (i := 179) (by decide +kernel) (by decide +kernel)
theorem biX9_paint : Cond.instanceMethod yX9_paint ∈ BIG := bw2 (i := 177) (by decide +kernel) (by decide +kernel)
theorem bsX9_paint : Cond.selects RX9 yX9_paint yX9_paint ∈ BIG := bw2 (i := 178) (by decide +kernel) (by decide +kernel)
theorem hX9_paint : yX9_paint.cls ≠ "java/lang/invoke/MethodHandle" ∧ yX9_paint.cls ≠ "java/lang/invoke/VarHandle" ∧ (parseMethodDescriptor yX9_paint.desc).map (fun d => d.parameters.length) = some 2 := by decide +kernel
theorem hpX9_paint : plainName yX9_paint.cls = true := by decide +kernel
theorem bcX9_rain : Cond.code yX9_rain cX9_rain 3 (some .int) ∈ BIG := bw2 (i := 205) (by decide +kernel) (by decide +kernel)
theorem biX9_rain : Cond.instanceMethod yX9_rain ∈ BIG := bw2 (i := 203) (by decide +kernel) (by decide +kernel)
theorem bsX9_rain : Cond.selects RX9 yX9_rain yX9_rain ∈ BIG := bw2 (i := 204) (by decide +kernel) (by decide +kernel)
theorem hX9_rain : yX9_rain.cls ≠ "java/lang/invoke/MethodHandle" ∧ yX9_rain.cls ≠ "java/lang/invoke/VarHandle" ∧ (parseMethodDescriptor yX9_rain.desc).map (fun d => d.parameters.length) = some 1 := by decide +kernel
theorem hpX9_rain : plainName yX9_rain.cls = true := by decide +kernel
theorem bcX9_pass : Cond.code yX9_pass cX9_pass 1 (some .int) ∈ BIG := bw2 (i := 222) (by decide +kernel) (by decide +kernel)
theorem biX9_pass : Cond.instanceMethod yX9_pass ∈ BIG := bw2 (i := 220) (by decide +kernel) (by decide +kernel)
theorem bsX9_pass : Cond.selects RX9 yX9_pass yX9_pass ∈ BIG := bw2 (i := 221) (by decide +kernel) (by decide +kernel)
theorem hX9_pass : yX9_pass.cls ≠ "java/lang/invoke/MethodHandle" ∧ yX9_pass.cls ≠ "java/lang/invoke/VarHandle" ∧ (parseMethodDescriptor yX9_pass.desc).map (fun d => d.parameters.length) = some 0 := by decide +kernel
theorem hpX9_pass : plainName yX9_pass.cls = true := by decide +kernel
theorem bcX9_undo : Cond.code yX9_undo cX9_undo 1 (some .int) ∈ BIG := bw2 (i := 230) (by decide +kernel) (by decide +kernel)
theorem biX9_undo : Cond.instanceMethod yX9_undo ∈ BIG := bw2 (i := 228) (by decide +kernel) (by decide +kernel)
theorem bsX9_undo : Cond.selects RX9 yX9_undo yX9_undo ∈ BIG := bw2 (i := 229) (by decide +kernel) (by decide +kernel)
theorem hX9_undo : yX9_undo.cls ≠ "java/lang/invoke/MethodHandle" ∧ yX9_undo.cls ≠ "java/lang/invoke/VarHandle" ∧ (parseMethodDescriptor yX9_undo.desc).map (fun d => d.parameters.length) = some 0 := by decide +kernel
theorem hpX9_undo : plainName yX9_undo.cls = true := by decide +kernel
theorem bcX9_tell : Cond.code yX9_tell cX9_tell 3 (some .int) ∈ BIG := bw3 (i := 3) (by decide +kernel) (by decide +kernel)
theorem biX9_tell : Cond.instanceMethod yX9_tell ∈ BIG := bw3 (i := 1) (by decide +kernel) (by decide +kernel)
theorem bsX9_tell : Cond.selects RX9 yX9_tell yX9_tell ∈ BIG := bw3 (i := 2) (by decide +kernel) (by decide +kernel)
theorem hX9_tell : yX9_tell.cls ≠ "java/lang/invoke/MethodHandle" ∧ yX9_tell.cls ≠ "java/lang/invoke/VarHandle" ∧ (parseMethodDescriptor yX9_tell.desc).map (fun d => d.parameters.length) = some 2 := by decide +kernel
theorem hpX9_tell : plainName yX9_tell.cls = true := by decide +kernel
theorem bcX9_noRow : Cond.code yX9_noRow cX9_noRow 1 (some .int) ∈ BIG := bw3 (i := 11) (by decide +kernel) (by decide +kernel)
theorem biX9_noRow : Cond.instanceMethod yX9_noRow ∈ BIG := bw3 (i := 9) (by decide +kernel) (by decide +kernel)
theorem bsX9_noRow : Cond.selects RX9 yX9_noRow yX9_noRow ∈ BIG := bw3 (i := 10) (by decide +kernel) (by decide +kernel)
theorem hX9_noRow : yX9_noRow.cls ≠ "java/lang/invoke/MethodHandle" ∧ yX9_noRow.cls ≠ "java/lang/invoke/VarHandle" ∧ (parseMethodDescriptor yX9_noRow.desc).map (fun d => d.parameters.length) = some 0 := by decide +kernel
theorem hpX9_noRow : plainName yX9_noRow.cls = true := by decide +kernel
theorem bcX9_judge : Cond.code yX9_judge cX9_judge 1 (some .int) ∈ BIG := bw3 (i := 15) (by decide +kernel) (by decide +kernel)
theorem biX9_judge : Cond.instanceMethod yX9_judge ∈ BIG := bw3 (i := 13) (by decide +kernel) (by decide +kernel)
theorem bsX9_judge : Cond.selects RX9 yX9_judge yX9_judge ∈ BIG := bw3 (i := 14) (by decide +kernel) (by decide +kernel)
theorem hX9_judge : yX9_judge.cls ≠ "java/lang/invoke/MethodHandle" ∧ yX9_judge.cls ≠ "java/lang/invoke/VarHandle" ∧ (parseMethodDescriptor yX9_judge.desc).map (fun d => d.parameters.length) = some 0 := by decide +kernel
theorem hpX9_judge : plainName yX9_judge.cls = true := by decide +kernel
theorem bcX9_ways : Cond.code yX9_ways cX9_ways 1 (some .int) ∈ BIG := bw3 (i := 30) (by decide +kernel) (by decide +kernel)
theorem biX9_ways : Cond.instanceMethod yX9_ways ∈ BIG := bw3 (i := 28) (by decide +kernel) (by decide +kernel)
theorem bsX9_ways : Cond.selects RX9 yX9_ways yX9_ways ∈ BIG := bw3 (i := 29) (by decide +kernel) (by decide +kernel)
theorem hX9_ways : yX9_ways.cls ≠ "java/lang/invoke/MethodHandle" ∧ yX9_ways.cls ≠ "java/lang/invoke/VarHandle" ∧ (parseMethodDescriptor yX9_ways.desc).map (fun d => d.parameters.length) = some 0 := by decide +kernel
theorem hpX9_ways : plainName yX9_ways.cls = true := by decide +kernel
theorem bcX9_fewest : Cond.code yX9_fewest cX9_fewest 1 (some .int) ∈ BIG := bw3 (i := 53) (by decide +kernel) (by decide +kernel)
theorem biX9_fewest : Cond.instanceMethod yX9_fewest ∈ BIG := bw3 (i := 51) (by decide +kernel) (by decide +kernel)
theorem bsX9_fewest : Cond.selects RX9 yX9_fewest yX9_fewest ∈ BIG := bw3 (i := 52) (by decide +kernel) (by decide +kernel)
theorem hX9_fewest : yX9_fewest.cls ≠ "java/lang/invoke/MethodHandle" ∧ yX9_fewest.cls ≠ "java/lang/invoke/VarHandle" ∧ (parseMethodDescriptor yX9_fewest.desc).map (fun d => d.parameters.length) = some 0 := by decide +kernel
theorem hpX9_fewest : plainName yX9_fewest.cls = true := by decide +kernel
theorem bcX9_scrape : Cond.code yX9_scrape cX9_scrape 3 (some .int) ∈ BIG := bw3 (i := 67) (by decide +kernel) (by decide +kernel)
theorem biX9_scrape : Cond.instanceMethod yX9_scrape ∈ BIG := bw3 (i := 65) (by decide +kernel) (by decide +kernel)
theorem bsX9_scrape : Cond.selects RX9 yX9_scrape yX9_scrape ∈ BIG := bw3 (i := 66) (by decide +kernel) (by decide +kernel)
theorem hX9_scrape : yX9_scrape.cls ≠ "java/lang/invoke/MethodHandle" ∧ yX9_scrape.cls ≠ "java/lang/invoke/VarHandle" ∧ (parseMethodDescriptor yX9_scrape.desc).map (fun d => d.parameters.length) = some 1 := by decide +kernel
theorem hpX9_scrape : plainName yX9_scrape.cls = true := by decide +kernel
theorem bcX9_matters : Cond.code yX9_matters cX9_matters 1 (some .int) ∈ BIG := bw3 (i := 78) (by decide +kernel) (by decide +kernel)
theorem biX9_matters : Cond.instanceMethod yX9_matters ∈ BIG := bw3 (i := 76) (by decide +kernel) (by decide +kernel)
theorem bsX9_matters : Cond.selects RX9 yX9_matters yX9_matters ∈ BIG := bw3 (i := 77) (by decide +kernel) (by decide +kernel)
theorem hX9_matters : yX9_matters.cls ≠ "java/lang/invoke/MethodHandle" ∧ yX9_matters.cls ≠ "java/lang/invoke/VarHandle" ∧ (parseMethodDescriptor yX9_matters.desc).map (fun d => d.parameters.length) = some 0 := by decide +kernel
theorem hpX9_matters : plainName yX9_matters.cls = true := by decide +kernel
theorem bcX9_beer : Cond.code yX9_beer cX9_beer 3 (some .int) ∈ BIG := bw3 (i := 85) (by decide +kernel) (by decide +kernel)
theorem biX9_beer : Cond.instanceMethod yX9_beer ∈ BIG := bw3 (i := 83) (by decide +kernel) (by decide +kernel)
theorem bsX9_beer : Cond.selects RX9 yX9_beer yX9_beer ∈ BIG := bw3 (i := 84) (by decide +kernel) (by decide +kernel)
theorem hX9_beer : yX9_beer.cls ≠ "java/lang/invoke/MethodHandle" ∧ yX9_beer.cls ≠ "java/lang/invoke/VarHandle" ∧ (parseMethodDescriptor yX9_beer.desc).map (fun d => d.parameters.length) = some 1 := by decide +kernel
theorem hpX9_beer : plainName yX9_beer.cls = true := by decide +kernel
theorem bcX9_white : Cond.code yX9_white cX9_white 3 (some .int) ∈ BIG := bw3 (i := 122) (by decide +kernel) (by decide +kernel)
theorem biX9_white : Cond.instanceMethod yX9_white ∈ BIG := bw3 (i := 120) (by decide +kernel) (by decide +kernel)
theorem bsX9_white : Cond.selects RX9 yX9_white yX9_white ∈ BIG := bw3 (i := 121) (by decide +kernel) (by decide +kernel)
theorem hX9_white : yX9_white.cls ≠ "java/lang/invoke/MethodHandle" ∧ yX9_white.cls ≠ "java/lang/invoke/VarHandle" ∧ (parseMethodDescriptor yX9_white.desc).map (fun d => d.parameters.length) = some 2 := by decide +kernel
theorem hpX9_white : plainName yX9_white.cls = true := by decide +kernel
theorem bcX9_orders : Cond.code yX9_orders cX9_orders 1 (some .int) ∈ BIG := bw3 (i := 131) (by decide +kernel) (by decide +kernel)
theorem biX9_orders : Cond.instanceMethod yX9_orders ∈ BIG := bw3 (i := 129) (by decide +kernel) (by decide +kernel)
theorem bsX9_orders : Cond.selects RX9 yX9_orders yX9_orders ∈ BIG := bw3 (i := 130) (by decide +kernel) (by decide +kernel)
theorem hX9_orders : yX9_orders.cls ≠ "java/lang/invoke/MethodHandle" ∧ yX9_orders.cls ≠ "java/lang/invoke/VarHandle" ∧ (parseMethodDescriptor yX9_orders.desc).map (fun d => d.parameters.length) = some 0 := by decide +kernel
theorem hpX9_orders : plainName yX9_orders.cls = true := by decide +kernel
theorem bcX9_only : Cond.code yX9_only cX9_only 2 (some .int) ∈ BIG := bw3 (i := 159) (by decide +kernel) (by decide +kernel)
theorem biX9_only : Cond.instanceMethod yX9_only ∈ BIG := bw3 (i := 157) (by decide +kernel) (by decide +kernel)
theorem bsX9_only : Cond.selects RX9 yX9_only yX9_only ∈ BIG := bw3 (i := 158) (by decide +kernel) (by decide +kernel)
theorem hX9_only : yX9_only.cls ≠ "java/lang/invoke/MethodHandle" ∧ yX9_only.cls ≠ "java/lang/invoke/VarHandle" ∧ (parseMethodDescriptor yX9_only.desc).map (fun d => d.parameters.length) = some 1 := by decide +kernel
theorem hpX9_only : plainName yX9_only.cls = true := by decide +kernel
theorem bcX9_odds : Cond.code yX9_odds cX9_odds 3 (some .long) ∈ BIG := bw3 (i := 167) (by decide +kernel) (by decide +kernel)
theorem biX9_odds : Cond.instanceMethod yX9_odds ∈ BIG := bw3 (i := 165) (by decide +kernel) (by decide +kernel)
theorem bsX9_odds : Cond.selects RX9 yX9_odds yX9_odds ∈ BIG := bw3 (i := 166) (by decide +kernel) (by decide +kernel)
theorem hX9_odds : yX9_odds.cls ≠ "java/lang/invoke/MethodHandle" ∧ yX9_odds.cls ≠ "java/lang/invoke/VarHandle" ∧ (parseMethodDescriptor yX9_odds.desc).map (fun d => d.parameters.length) = some 2 := by decide +kernel
theorem hpX9_odds : plainName yX9_odds.cls = true := by decide +kernel
theorem bcX9_evening : Cond.code yX9_evening cX9_evening 3 (some .int) ∈ BIG := bw3 (i := 195) (by decide +kernel) (by decide +kernel)
theorem biX9_evening : Cond.instanceMethod yX9_evening ∈ BIG := bw3 (i := 193) (by decide +kernel) (by decide +kernel)
theorem bsX9_evening : Cond.selects RX9 yX9_evening yX9_evening ∈ BIG := bw3 (i := 194) (by decide +kernel) (by decide +kernel)
theorem hX9_evening : yX9_evening.cls ≠ "java/lang/invoke/MethodHandle" ∧ yX9_evening.cls ≠ "java/lang/invoke/VarHandle" ∧ (parseMethodDescriptor yX9_evening.desc).map (fun d => d.parameters.length) = some 2 := by decide +kernel
theorem hpX9_evening : plainName yX9_evening.cls = true := by decide +kernel
theorem bcX9_keep : Cond.code yX9_keep cX9_keep 1 (some .int) ∈ BIG := bw3 (i := 210) (by decide +kernel) (by decide +kernel)
theorem biX9_keep : Cond.instanceMethod yX9_keep ∈ BIG := bw3 (i := 208) (by decide +kernel) (by decide +kernel)
theorem bsX9_keep : Cond.selects RX9 yX9_keep yX9_keep ∈ BIG := bw3 (i := 209) (by decide +kernel) (by decide +kernel)
theorem hX9_keep : yX9_keep.cls ≠ "java/lang/invoke/MethodHandle" ∧ yX9_keep.cls ≠ "java/lang/invoke/VarHandle" ∧ (parseMethodDescriptor yX9_keep.desc).map (fun d => d.parameters.length) = some 0 := by decide +kernel
theorem hpX9_keep : plainName yX9_keep.cls = true := by decide +kernel
theorem bcX9_back : Cond.code yX9_back cX9_back 1 (some .int) ∈ BIG := bw3 (i := 218) (by decide +kernel) (by decide +kernel)
theorem biX9_back : Cond.instanceMethod yX9_back ∈ BIG := bw3 (i := 216) (by decide +kernel) (by decide +kernel)
theorem bsX9_back : Cond.selects RX9 yX9_back yX9_back ∈ BIG := bw3 (i := 217) (by decide +kernel) (by decide +kernel)
theorem hX9_back : yX9_back.cls ≠ "java/lang/invoke/MethodHandle" ∧ yX9_back.cls ≠ "java/lang/invoke/VarHandle" ∧ (parseMethodDescriptor yX9_back.desc).map (fun d => d.parameters.length) = some 0 := by decide +kernel
theorem hpX9_back : plainName yX9_back.cls = true := by decide +kernel
theorem bcX9_count : Cond.code yX9_count cX9_count 2 (some .int) ∈ BIG := bw3 (i := 226) (by decide +kernel) (by decide +kernel)
theorem biX9_count : Cond.instanceMethod yX9_count ∈ BIG := bw3 (i := 224) (by decide +kernel) (by decide +kernel)
theorem bsX9_count : Cond.selects RX9 yX9_count yX9_count ∈ BIG := bw3 (i := 225) (by decide +kernel) (by decide +kernel)
theorem hX9_count : yX9_count.cls ≠ "java/lang/invoke/MethodHandle" ∧ yX9_count.cls ≠ "java/lang/invoke/VarHandle" ∧ (parseMethodDescriptor yX9_count.desc).map (fun d => d.parameters.length) = some 1 := by decide +kernel
theorem hpX9_count : plainName yX9_count.cls = true := by decide +kernel
theorem bcX9_isPainter : Cond.code yX9_isPainter cX9_isPainter 1 (some .boolean) ∈ BIG := bw2 (i := 88) (by decide +kernel) (by decide +kernel)
theorem btX9_isPainter : Cond.static yX9_isPainter ∈ BIG := bw2 (i := 87) (by decide +kernel) (by decide +kernel)
theorem hX9_isPainter : yX9_isPainter.cls ≠ "java/lang/invoke/MethodHandle" ∧ yX9_isPainter.cls ≠ "java/lang/invoke/VarHandle" ∧ (parseMethodDescriptor yX9_isPainter.desc).map (fun d => d.parameters.length) = some 1 := by decide +kernel
theorem hpX9_isPainter : plainName yX9_isPainter.cls = true := by decide +kernel
theorem bcX9_choicesNow : Cond.code yX9_choicesNow cX9_choicesNow 1 (some .int) ∈ BIG := bw2 (i := 166) (by decide +kernel) (by decide +kernel)
theorem biX9_choicesNow : Cond.instanceMethod yX9_choicesNow ∈ BIG := bw2 (i := 165) (by decide +kernel) (by decide +kernel)
theorem bsX9_choicesNow : Cond.selects RX9 yX9_choicesNow yX9_choicesNow ∈ BIG := bw0 (i := 10) (by decide +kernel) (by decide +kernel)
theorem hX9_choicesNow : yX9_choicesNow.cls ≠ "java/lang/invoke/MethodHandle" ∧ yX9_choicesNow.cls ≠ "java/lang/invoke/VarHandle" ∧ (parseMethodDescriptor yX9_choicesNow.desc).map (fun d => d.parameters.length) = some 0 := by decide +kernel
theorem hpX9_choicesNow : plainName yX9_choicesNow.cls = true := by decide +kernel
theorem bcX9_loose : Cond.code yX9_loose cX9_loose 1 (some .int) ∈ BIG := bw2 (i := 209) (by decide +kernel) (by decide +kernel)
theorem biX9_loose : Cond.instanceMethod yX9_loose ∈ BIG := bw2 (i := 208) (by decide +kernel) (by decide +kernel)
theorem bsX9_loose : Cond.selects RX9 yX9_loose yX9_loose ∈ BIG := bw0 (i := 13) (by decide +kernel) (by decide +kernel)
theorem hX9_loose : yX9_loose.cls ≠ "java/lang/invoke/MethodHandle" ∧ yX9_loose.cls ≠ "java/lang/invoke/VarHandle" ∧ (parseMethodDescriptor yX9_loose.desc).map (fun d => d.parameters.length) = some 0 := by decide +kernel
theorem hpX9_loose : plainName yX9_loose.cls = true := by decide +kernel
theorem bcX10_init : Cond.code yX10_init cX10_init 1 none ∈ BIG := bw3 (i := 231) (by decide +kernel) (by decide +kernel)
theorem biX10_init : Cond.instanceMethod yX10_init ∈ BIG := bw3 (i := 230) (by decide +kernel) (by decide +kernel)
theorem bzX10 : Cond.initialized RX10 ∈ BIG := bw1 (i := 9) (by decide +kernel) (by decide +kernel)
theorem hX10_init : yX10_init.cls ≠ "java/lang/invoke/MethodHandle" ∧ yX10_init.cls ≠ "java/lang/invoke/VarHandle" ∧ (parseMethodDescriptor yX10_init.desc).map (fun d => d.parameters.length) = some 0 := by decide +kernel
theorem hpX10_init : plainName yX10_init.cls = true := by decide +kernel
theorem bcX10_in : Cond.code yX10_in cX10_in 6 (some .boolean) ∈ BIG := bw4 (i := 74) (by decide +kernel) (by decide +kernel)
theorem btX10_in : Cond.static yX10_in ∈ BIG := bw4 (i := 73) (by decide +kernel) (by decide +kernel)
theorem hX10_in : yX10_in.cls ≠ "java/lang/invoke/MethodHandle" ∧ yX10_in.cls ≠ "java/lang/invoke/VarHandle" ∧ (parseMethodDescriptor yX10_in.desc).map (fun d => d.parameters.length) = some 3 := by decide +kernel
theorem hpX10_in : plainName yX10_in.cls = true := by decide +kernel
theorem bcX10_write : Cond.code yX10_write cX10_write 5 (some .int) ∈ BIG := bw4 (i := 70) (by decide +kernel) (by decide +kernel)
theorem biX10_write : Cond.instanceMethod yX10_write ∈ BIG := bw4 (i := 68) (by decide +kernel) (by decide +kernel)
theorem bsX10_write : Cond.selects RX10 yX10_write yX10_write ∈ BIG := bw4 (i := 69) (by decide +kernel) (by decide +kernel)
theorem hX10_write : yX10_write.cls ≠ "java/lang/invoke/MethodHandle" ∧ yX10_write.cls ≠ "java/lang/invoke/VarHandle" ∧ (parseMethodDescriptor yX10_write.desc).map (fun d => d.parameters.length) = some 2 := by decide +kernel
theorem hpX10_write : plainName yX10_write.cls = true := by decide +kernel
theorem bcX10_wipe : Cond.code yX10_wipe cX10_wipe 2 (some .int) ∈ BIG := bw4 (i := 78) (by decide +kernel) (by decide +kernel)
theorem biX10_wipe : Cond.instanceMethod yX10_wipe ∈ BIG := bw4 (i := 76) (by decide +kernel) (by decide +kernel)
theorem bsX10_wipe : Cond.selects RX10 yX10_wipe yX10_wipe ∈ BIG := bw4 (i := 77) (by decide +kernel) (by decide +kernel)
theorem hX10_wipe : yX10_wipe.cls ≠ "java/lang/invoke/MethodHandle" ∧ yX10_wipe.cls ≠ "java/lang/invoke/VarHandle" ∧ (parseMethodDescriptor yX10_wipe.desc).map (fun d => d.parameters.length) = some 0 := by decide +kernel
theorem hpX10_wipe : plainName yX10_wipe.cls = true := by decide +kernel
theorem bcX10_number : Cond.code yX10_number cX10_number 3 (some .int) ∈ BIG := bw4 (i := 93) (by decide +kernel) (by decide +kernel)
theorem biX10_number : Cond.instanceMethod yX10_number ∈ BIG := bw4 (i := 92) (by decide +kernel) (by decide +kernel)
theorem bsX10_number : Cond.selects RX10 yX10_number yX10_number ∈ BIG := bw0 (i := 25) (by decide +kernel) (by decide +kernel)
theorem hX10_number : yX10_number.cls ≠ "java/lang/invoke/MethodHandle" ∧ yX10_number.cls ≠ "java/lang/invoke/VarHandle" ∧ (parseMethodDescriptor yX10_number.desc).map (fun d => d.parameters.length) = some 0 := by decide +kernel
theorem hpX10_number : plainName yX10_number.cls = true := by decide +kernel
theorem bcX10_numbers : Cond.code yX10_numbers cX10_numbers 1 (some .int) ∈ BIG := bw4 (i := 89) (by decide +kernel) (by decide +kernel)
theorem btX10_numbers : Cond.static yX10_numbers ∈ BIG := bw4 (i := 88) (by decide +kernel) (by decide +kernel)
theorem hX10_numbers : yX10_numbers.cls ≠ "java/lang/invoke/MethodHandle" ∧ yX10_numbers.cls ≠ "java/lang/invoke/VarHandle" ∧ (parseMethodDescriptor yX10_numbers.desc).map (fun d => d.parameters.length) = some 1 := by decide +kernel
theorem hpX10_numbers : plainName yX10_numbers.cls = true := by decide +kernel
theorem bcX10_isItem : Cond.code yX10_isItem cX10_isItem 5 (some .boolean) ∈ BIG := bw4 (i := 86) (by decide +kernel) (by decide +kernel)
theorem biX10_isItem : Cond.instanceMethod yX10_isItem ∈ BIG := bw4 (i := 85) (by decide +kernel) (by decide +kernel)
theorem bsX10_isItem : Cond.selects RX10 yX10_isItem yX10_isItem ∈ BIG := bw0 (i := 24) (by decide +kernel) (by decide +kernel)
theorem hX10_isItem : yX10_isItem.cls ≠ "java/lang/invoke/MethodHandle" ∧ yX10_isItem.cls ≠ "java/lang/invoke/VarHandle" ∧ (parseMethodDescriptor yX10_isItem.desc).map (fun d => d.parameters.length) = some 0 := by decide +kernel
theorem hpX10_isItem : plainName yX10_isItem.cls = true := by decide +kernel
theorem bcX10_isGood : Cond.code yX10_isGood cX10_isGood 4 (some .boolean) ∈ BIG := bw4 (i := 100) (by decide +kernel) (by decide +kernel)
theorem biX10_isGood : Cond.instanceMethod yX10_isGood ∈ BIG := bw4 (i := 99) (by decide +kernel) (by decide +kernel)
theorem bsX10_isGood : Cond.selects RX10 yX10_isGood yX10_isGood ∈ BIG := bw0 (i := 26) (by decide +kernel) (by decide +kernel)
theorem hX10_isGood : yX10_isGood.cls ≠ "java/lang/invoke/MethodHandle" ∧ yX10_isGood.cls ≠ "java/lang/invoke/VarHandle" ∧ (parseMethodDescriptor yX10_isGood.desc).map (fun d => d.parameters.length) = some 1 := by decide +kernel
theorem hpX10_isGood : plainName yX10_isGood.cls = true := by decide +kernel
theorem bcX10_begins : Cond.code yX10_begins cX10_begins 2 none ∈ BIG := bw3 (i := 237) (by decide +kernel) (by decide +kernel)
theorem biX10_begins : Cond.instanceMethod yX10_begins ∈ BIG := bw3 (i := 236) (by decide +kernel) (by decide +kernel)
theorem bsX10_begins : Cond.selects RX10 yX10_begins yX10_begins ∈ BIG := bw0 (i := 22) (by decide +kernel) (by decide +kernel)
theorem hX10_begins : yX10_begins.cls ≠ "java/lang/invoke/MethodHandle" ∧ yX10_begins.cls ≠ "java/lang/invoke/VarHandle" ∧ (parseMethodDescriptor yX10_begins.desc).map (fun d => d.parameters.length) = some 0 := by decide +kernel
theorem hpX10_begins : plainName yX10_begins.cls = true := by decide +kernel
theorem bcX10_takes : Cond.code yX10_takes cX10_takes 5 none ∈ BIG := bw4 (i := 1) (by decide +kernel) (by decide +kernel)
theorem biX10_takes : Cond.instanceMethod yX10_takes ∈ BIG := bw4 (i := 0) (by decide +kernel) (by decide +kernel)
theorem bsX10_takes : Cond.selects RX10 yX10_takes yX10_takes ∈ BIG := bw0 (i := 23) (by decide +kernel) (by decide +kernel)
theorem hX10_takes : yX10_takes.cls ≠ "java/lang/invoke/MethodHandle" ∧ yX10_takes.cls ≠ "java/lang/invoke/VarHandle" ∧ (parseMethodDescriptor yX10_takes.desc).map (fun d => d.parameters.length) = some 0 := by decide +kernel
theorem hpX10_takes : plainName yX10_takes.cls = true := by decide +kernel
theorem bcX10_fault : Cond.code yX10_fault cX10_fault 2 (some .int) ∈ BIG := bw4 (i := 82) (by decide +kernel) (by decide +kernel)
theorem biX10_fault : Cond.instanceMethod yX10_fault ∈ BIG := bw4 (i := 80) (by decide +kernel) (by decide +kernel)
theorem bsX10_fault : Cond.selects RX10 yX10_fault yX10_fault ∈ BIG := bw4 (i := 81) (by decide +kernel) (by decide +kernel)
theorem hX10_fault : yX10_fault.cls ≠ "java/lang/invoke/MethodHandle" ∧ yX10_fault.cls ≠ "java/lang/invoke/VarHandle" ∧ (parseMethodDescriptor yX10_fault.desc).map (fun d => d.parameters.length) = some 0 := by decide +kernel
theorem hpX10_fault : plainName yX10_fault.cls = true := by decide +kernel
theorem bcX10_isSound : Cond.code yX10_isSound cX10_isSound 6 (some .boolean) ∈ BIG := bw4 (i := 110) (by decide +kernel) (by decide +kernel)
theorem biX10_isSound : Cond.instanceMethod yX10_isSound ∈ BIG := bw4 (i := 109) (by decide +kernel) (by decide +kernel)
theorem bsX10_isSound : Cond.selects RX10 yX10_isSound yX10_isSound ∈ BIG := bw0 (i := 27) (by decide +kernel) (by decide +kernel)
theorem hX10_isSound : yX10_isSound.cls ≠ "java/lang/invoke/MethodHandle" ∧ yX10_isSound.cls ≠ "java/lang/invoke/VarHandle" ∧ (parseMethodDescriptor yX10_isSound.desc).map (fun d => d.parameters.length) = some 0 := by decide +kernel
theorem hpX10_isSound : plainName yX10_isSound.cls = true := by decide +kernel
theorem bcX10_areWell : Cond.code yX10_areWell cX10_areWell 3 (some .boolean) ∈ BIG := bw4 (i := 114) (by decide +kernel) (by decide +kernel)
theorem biX10_areWell : Cond.instanceMethod yX10_areWell ∈ BIG := bw4 (i := 113) (by decide +kernel) (by decide +kernel)
theorem bsX10_areWell : Cond.selects RX10 yX10_areWell yX10_areWell ∈ BIG := bw0 (i := 28) (by decide +kernel) (by decide +kernel)
theorem hX10_areWell : yX10_areWell.cls ≠ "java/lang/invoke/MethodHandle" ∧ yX10_areWell.cls ≠ "java/lang/invoke/VarHandle" ∧ (parseMethodDescriptor yX10_areWell.desc).map (fun d => d.parameters.length) = some 2 := by decide +kernel
theorem hpX10_areWell : plainName yX10_areWell.cls = true := by decide +kernel
theorem bcX10_lay : Cond.code yX10_lay cX10_lay 1 (some .int) ∈ BIG := bw4 (i := 105) (by decide +kernel) (by decide +kernel)
theorem biX10_lay : Cond.instanceMethod yX10_lay ∈ BIG := bw4 (i := 103) (by decide +kernel) (by decide +kernel)
theorem bsX10_lay : Cond.selects RX10 yX10_lay yX10_lay ∈ BIG := bw4 (i := 104) (by decide +kernel) (by decide +kernel)
theorem hX10_lay : yX10_lay.cls ≠ "java/lang/invoke/MethodHandle" ∧ yX10_lay.cls ≠ "java/lang/invoke/VarHandle" ∧ (parseMethodDescriptor yX10_lay.desc).map (fun d => d.parameters.length) = some 0 := by decide +kernel
theorem hpX10_lay : plainName yX10_lay.cls = true := by decide +kernel
theorem bcX10_isStone : Cond.code yX10_isStone cX10_isStone 2 (some .boolean) ∈ BIG := bw4 (i := 122) (by decide +kernel) (by decide +kernel)
theorem biX10_isStone : Cond.instanceMethod yX10_isStone ∈ BIG := bw4 (i := 121) (by decide +kernel) (by decide +kernel)
theorem bsX10_isStone : Cond.selects RX10 yX10_isStone yX10_isStone ∈ BIG := bw0 (i := 29) (by decide +kernel) (by decide +kernel)
theorem hX10_isStone : yX10_isStone.cls ≠ "java/lang/invoke/MethodHandle" ∧ yX10_isStone.cls ≠ "java/lang/invoke/VarHandle" ∧ (parseMethodDescriptor yX10_isStone.desc).map (fun d => d.parameters.length) = some 1 := by decide +kernel
theorem hpX10_isStone : plainName yX10_isStone.cls = true := by decide +kernel
theorem bcX10_isPaint : Cond.code yX10_isPaint cX10_isPaint 2 (some .boolean) ∈ BIG := bw4 (i := 130) (by decide +kernel) (by decide +kernel)
theorem biX10_isPaint : Cond.instanceMethod yX10_isPaint ∈ BIG := bw4 (i := 129) (by decide +kernel) (by decide +kernel)
theorem bsX10_isPaint : Cond.selects RX10 yX10_isPaint yX10_isPaint ∈ BIG := bw0 (i := 30) (by decide +kernel) (by decide +kernel)
theorem hX10_isPaint : yX10_isPaint.cls ≠ "java/lang/invoke/MethodHandle" ∧ yX10_isPaint.cls ≠ "java/lang/invoke/VarHandle" ∧ (parseMethodDescriptor yX10_isPaint.desc).map (fun d => d.parameters.length) = some 1 := by decide +kernel
theorem hpX10_isPaint : plainName yX10_isPaint.cls = true := by decide +kernel
theorem bcX10_stone : Cond.code yX10_stone cX10_stone 3 (some .int) ∈ BIG := bw4 (i := 118) (by decide +kernel) (by decide +kernel)
theorem biX10_stone : Cond.instanceMethod yX10_stone ∈ BIG := bw4 (i := 116) (by decide +kernel) (by decide +kernel)
theorem bsX10_stone : Cond.selects RX10 yX10_stone yX10_stone ∈ BIG := bw4 (i := 117) (by decide +kernel) (by decide +kernel)
theorem hX10_stone : yX10_stone.cls ≠ "java/lang/invoke/MethodHandle" ∧ yX10_stone.cls ≠ "java/lang/invoke/VarHandle" ∧ (parseMethodDescriptor yX10_stone.desc).map (fun d => d.parameters.length) = some 2 := by decide +kernel
theorem hpX10_stone : plainName yX10_stone.cls = true := by decide +kernel
theorem bcX10_touch : Cond.code yX10_touch cX10_touch 3 (some .int) ∈ BIG := bw4 (i := 126) (by decide +kernel) (by decide +kernel)
theorem biX10_touch : Cond.instanceMethod yX10_touch ∈ BIG := bw4 (i := 124) (by decide +kernel) (by decide +kernel)
theorem bsX10_touch : Cond.selects RX10 yX10_touch yX10_touch ∈ BIG := bw4 (i := 125) (by decide +kernel) (by decide +kernel)
theorem hX10_touch : yX10_touch.cls ≠ "java/lang/invoke/MethodHandle" ∧ yX10_touch.cls ≠ "java/lang/invoke/VarHandle" ∧ (parseMethodDescriptor yX10_touch.desc).map (fun d => d.parameters.length) = some 2 := by decide +kernel
theorem hpX10_touch : plainName yX10_touch.cls = true := by decide +kernel
theorem bcX10_isWell : Cond.code yX10_isWell cX10_isWell 7 (some .boolean) ∈ BIG := bw4 (i := 142) (by decide +kernel) (by decide +kernel)
theorem biX10_isWell : Cond.instanceMethod yX10_isWell ∈ BIG := bw4 (i := 141) (by decide +kernel) (by decide +kernel)
theorem bsX10_isWell : Cond.selects RX10 yX10_isWell yX10_isWell ∈ BIG := bw0 (i := 32) (by decide +kernel) (by decide +kernel)
theorem hX10_isWell : yX10_isWell.cls ≠ "java/lang/invoke/MethodHandle" ∧ yX10_isWell.cls ≠ "java/lang/invoke/VarHandle" ∧ (parseMethodDescriptor yX10_isWell.desc).map (fun d => d.parameters.length) = some 3 := by decide +kernel
theorem hpX10_isWell : plainName yX10_isWell.cls = true := by decide +kernel
theorem bcX10_isMay : Cond.code yX10_isMay cX10_isMay 4 (some .boolean) ∈ BIG := bw4 (i := 138) (by decide +kernel) (by decide +kernel)
theorem biX10_isMay : Cond.instanceMethod yX10_isMay ∈ BIG := bw4 (i := 137) (by decide +kernel) (by decide +kernel)
theorem bsX10_isMay : Cond.selects RX10 yX10_isMay yX10_isMay ∈ BIG := bw0 (i := 31) (by decide +kernel) (by decide +kernel)
theorem hX10_isMay : yX10_isMay.cls ≠ "java/lang/invoke/MethodHandle" ∧ yX10_isMay.cls ≠ "java/lang/invoke/VarHandle" ∧ (parseMethodDescriptor yX10_isMay.desc).map (fun d => d.parameters.length) = some 3 := by decide +kernel
theorem hpX10_isMay : plainName yX10_isMay.cls = true := by decide +kernel
theorem bcX10_may : Cond.code yX10_may cX10_may 4 (some .int) ∈ BIG := bw4 (i := 134) (by decide +kernel) (by decide +kernel)
theorem biX10_may : Cond.instanceMethod yX10_may ∈ BIG := bw4 (i := 132) (by decide +kernel) (by decide +kernel)
theorem bsX10_may : Cond.selects RX10 yX10_may yX10_may ∈ BIG := bw4 (i := 133) (by decide +kernel) (by decide +kernel)
theorem hX10_may : yX10_may.cls ≠ "java/lang/invoke/MethodHandle" ∧ yX10_may.cls ≠ "java/lang/invoke/VarHandle" ∧ (parseMethodDescriptor yX10_may.desc).map (fun d => d.parameters.length) = some 1 := by decide +kernel
theorem hpX10_may : plainName yX10_may.cls = true := by decide +kernel
theorem bcX10_mays : Cond.code yX10_mays cX10_mays 5 (some .int) ∈ BIG := bw4 (i := 174) (by decide +kernel) (by decide +kernel)
theorem biX10_mays : Cond.instanceMethod yX10_mays ∈ BIG := bw4 (i := 173) (by decide +kernel) (by decide +kernel)
theorem bsX10_mays : Cond.selects RX10 yX10_mays yX10_mays ∈ BIG := bw0 (i := 37) (by decide +kernel) (by decide +kernel)
theorem hX10_mays : yX10_mays.cls ≠ "java/lang/invoke/MethodHandle" ∧ yX10_mays.cls ≠ "java/lang/invoke/VarHandle" ∧ (parseMethodDescriptor yX10_mays.desc).map (fun d => d.parameters.length) = some 1 := by decide +kernel
theorem hpX10_mays : plainName yX10_mays.cls = true := by decide +kernel
theorem bcX10_copies : Cond.code yX10_copies cX10_copies 4 none ∈ BIG := bw4 (i := 154) (by decide +kernel) (by decide +kernel)
theorem biX10_copies : Cond.instanceMethod yX10_copies ∈ BIG := bw4 (i := 153) (by decide +kernel) (by decide +kernel)
theorem bsX10_copies : Cond.selects RX10 yX10_copies yX10_copies ∈ BIG := bw0 (i := 34) (by decide +kernel) (by decide +kernel)
theorem hX10_copies : yX10_copies.cls ≠ "java/lang/invoke/MethodHandle" ∧ yX10_copies.cls ≠ "java/lang/invoke/VarHandle" ∧ (parseMethodDescriptor yX10_copies.desc).map (fun d => d.parameters.length) = some 2 := by decide +kernel
theorem hpX10_copies : plainName yX10_copies.cls = true := by decide +kernel
theorem bcX10_known : Cond.code yX10_known cX10_known 2 none ∈ BIG := bw4 (i := 150) (by decide +kernel) (by decide +kernel)
theorem biX10_known : Cond.instanceMethod yX10_known ∈ BIG := bw4 (i := 149) (by decide +kernel) (by decide +kernel)
theorem bsX10_known : Cond.selects RX10 yX10_known yX10_known ∈ BIG := bw0 (i := 33) (by decide +kernel) (by decide +kernel)
theorem hX10_known : yX10_known.cls ≠ "java/lang/invoke/MethodHandle" ∧ yX10_known.cls ≠ "java/lang/invoke/VarHandle" ∧ (parseMethodDescriptor yX10_known.desc).map (fun d => d.parameters.length) = some 0 := by decide +kernel
theorem hpX10_known : plainName yX10_known.cls = true := by decide +kernel
theorem bcX10_paints : Cond.code yX10_paints cX10_paints 5 none ∈ BIG := bw4 (i := 158) (by decide +kernel) (by decide +kernel)
theorem biX10_paints : Cond.instanceMethod yX10_paints ∈ BIG := bw4 (i := 157) (by decide +kernel) (by decide +kernel)
theorem bsX10_paints : Cond.selects RX10 yX10_paints yX10_paints ∈ BIG := bw0 (i := 35) (by decide +kernel) (by decide +kernel)
theorem hX10_paints : yX10_paints.cls ≠ "java/lang/invoke/MethodHandle" ∧ yX10_paints.cls ≠ "java/lang/invoke/VarHandle" ∧ (parseMethodDescriptor yX10_paints.desc).map (fun d => d.parameters.length) = some 3 := by decide +kernel
theorem hpX10_paints : plainName yX10_paints.cls = true := by decide +kernel
theorem bcX10_painted : Cond.code yX10_painted cX10_painted 4 (some .int) ∈ BIG := bw4 (i := 162) (by decide +kernel) (by decide +kernel)
theorem biX10_painted : Cond.instanceMethod yX10_painted ∈ BIG := bw4 (i := 161) (by decide +kernel) (by decide +kernel)
theorem bsX10_painted : Cond.selects RX10 yX10_painted yX10_painted ∈ BIG := bw0 (i := 36) (by decide +kernel) (by decide +kernel)
theorem hX10_painted : yX10_painted.cls ≠ "java/lang/invoke/MethodHandle" ∧ yX10_painted.cls ≠ "java/lang/invoke/VarHandle" ∧ (parseMethodDescriptor yX10_painted.desc).map (fun d => d.parameters.length) = some 1 := by decide +kernel
theorem hpX10_painted : plainName yX10_painted.cls = true := by decide +kernel
theorem bcX10_paint : Cond.code yX10_paint cX10_paint 3 (some .int) ∈ BIG := bw4 (i := 146) (by decide +kernel) (by decide +kernel)
theorem biX10_paint : Cond.instanceMethod yX10_paint ∈ BIG := bw4 (i := 144) (by decide +kernel) (by decide +kernel)
theorem bsX10_paint : Cond.selects RX10 yX10_paint yX10_paint ∈ BIG := bw4 (i := 145) (by decide +kernel) (by decide +kernel)
theorem hX10_paint : yX10_paint.cls ≠ "java/lang/invoke/MethodHandle" ∧ yX10_paint.cls ≠ "java/lang/invoke/VarHandle" ∧ (parseMethodDescriptor yX10_paint.desc).map (fun d => d.parameters.length) = some 2 := by decide +kernel
theorem hpX10_paint : plainName yX10_paint.cls = true := by decide +kernel
theorem bcX10_rain : Cond.code yX10_rain cX10_rain 3 (some .int) ∈ BIG := bw4 (i := 166) (by decide +kernel) (by decide +kernel)
theorem biX10_rain : Cond.instanceMethod yX10_rain ∈ BIG := bw4 (i := 164) (by decide +kernel) (by decide +kernel)
theorem bsX10_rain : Cond.selects RX10 yX10_rain yX10_rain ∈ BIG := bw4 (i := 165) (by decide +kernel) (by decide +kernel)
theorem hX10_rain : yX10_rain.cls ≠ "java/lang/invoke/MethodHandle" ∧ yX10_rain.cls ≠ "java/lang/invoke/VarHandle" ∧ (parseMethodDescriptor yX10_rain.desc).map (fun d => d.parameters.length) = some 1 := by decide +kernel
theorem hpX10_rain : plainName yX10_rain.cls = true := by decide +kernel
theorem bcX10_pass : Cond.code yX10_pass cX10_pass 1 (some .int) ∈ BIG := bw4 (i := 170) (by decide +kernel) (by decide +kernel)
theorem biX10_pass : Cond.instanceMethod yX10_pass ∈ BIG := bw4 (i := 168) (by decide +kernel) (by decide +kernel)
theorem bsX10_pass : Cond.selects RX10 yX10_pass yX10_pass ∈ BIG := bw4 (i := 169) (by decide +kernel) (by decide +kernel)
theorem hX10_pass : yX10_pass.cls ≠ "java/lang/invoke/MethodHandle" ∧ yX10_pass.cls ≠ "java/lang/invoke/VarHandle" ∧ (parseMethodDescriptor yX10_pass.desc).map (fun d => d.parameters.length) = some 0 := by decide +kernel
theorem hpX10_pass : plainName yX10_pass.cls = true := by decide +kernel
theorem bcX10_undo : Cond.code yX10_undo cX10_undo 1 (some .int) ∈ BIG := bw4 (i := 178) (by decide +kernel) (by decide +kernel)
theorem biX10_undo : Cond.instanceMethod yX10_undo ∈ BIG := bw4 (i := 176) (by decide +kernel) (by decide +kernel)
theorem bsX10_undo : Cond.selects RX10 yX10_undo yX10_undo ∈ BIG := bw4 (i := 177) (by decide +kernel) (by decide +kernel)
theorem hX10_undo : yX10_undo.cls ≠ "java/lang/invoke/MethodHandle" ∧ yX10_undo.cls ≠ "java/lang/invoke/VarHandle" ∧ (parseMethodDescriptor yX10_undo.desc).map (fun d => d.parameters.length) = some 0 := by decide +kernel
theorem hpX10_undo : plainName yX10_undo.cls = true := by decide +kernel
theorem bcX10_tell : Cond.code yX10_tell cX10_tell 3 (some .int) ∈ BIG := bw4 (i := 182) (by decide +kernel) (by decide +kernel)
theorem biX10_tell : Cond.instanceMethod yX10_tell ∈ BIG := bw4 (i := 180) (by decide +kernel) (by decide +kernel)
theorem bsX10_tell : Cond.selects RX10 yX10_tell yX10_tell ∈ BIG := bw4 (i := 181) (by decide +kernel) (by decide +kernel)
theorem hX10_tell : yX10_tell.cls ≠ "java/lang/invoke/MethodHandle" ∧ yX10_tell.cls ≠ "java/lang/invoke/VarHandle" ∧ (parseMethodDescriptor yX10_tell.desc).map (fun d => d.parameters.length) = some 2 := by decide +kernel
theorem hpX10_tell : plainName yX10_tell.cls = true := by decide +kernel
theorem bcX10_noRow : Cond.code yX10_noRow cX10_noRow 2 (some .int) ∈ BIG := bw4 (i := 186) (by decide +kernel) (by decide +kernel)
theorem biX10_noRow : Cond.instanceMethod yX10_noRow ∈ BIG := bw4 (i := 184) (by decide +kernel) (by decide +kernel)
theorem bsX10_noRow : Cond.selects RX10 yX10_noRow yX10_noRow ∈ BIG := bw4 (i := 185) (by decide +kernel) (by decide +kernel)
theorem hX10_noRow : yX10_noRow.cls ≠ "java/lang/invoke/MethodHandle" ∧ yX10_noRow.cls ≠ "java/lang/invoke/VarHandle" ∧ (parseMethodDescriptor yX10_noRow.desc).map (fun d => d.parameters.length) = some 0 := by decide +kernel
theorem hpX10_noRow : plainName yX10_noRow.cls = true := by decide +kernel
theorem bcX10_judge : Cond.code yX10_judge cX10_judge 2 (some .int) ∈ BIG := bw4 (i := 190) (by decide +kernel) (by decide +kernel)
theorem biX10_judge : Cond.instanceMethod yX10_judge ∈ BIG := bw4 (i := 188) (by decide +kernel) (by decide +kernel)
theorem bsX10_judge : Cond.selects RX10 yX10_judge yX10_judge ∈ BIG := bw4 (i := 189) (by decide +kernel) (by decide +kernel)
theorem hX10_judge : yX10_judge.cls ≠ "java/lang/invoke/MethodHandle" ∧ yX10_judge.cls ≠ "java/lang/invoke/VarHandle" ∧ (parseMethodDescriptor yX10_judge.desc).map (fun d => d.parameters.length) = some 0 := by decide +kernel
theorem hpX10_judge : plainName yX10_judge.cls = true := by decide +kernel
theorem bcX10_freed : Cond.code yX10_freed cX10_freed 2 none ∈ BIG := bw4 (i := 202) (by decide +kernel) (by decide +kernel)
theorem biX10_freed : Cond.instanceMethod yX10_freed ∈ BIG := bw4 (i := 201) (by decide +kernel) (by decide +kernel)
theorem bsX10_freed : Cond.selects RX10 yX10_freed yX10_freed ∈ BIG := bw0 (i := 39) (by decide +kernel) (by decide +kernel)
theorem hX10_freed : yX10_freed.cls ≠ "java/lang/invoke/MethodHandle" ∧ yX10_freed.cls ≠ "java/lang/invoke/VarHandle" ∧ (parseMethodDescriptor yX10_freed.desc).map (fun d => d.parameters.length) = some 0 := by decide +kernel
theorem hpX10_freed : plainName yX10_freed.cls = true := by decide +kernel
theorem bcX10_waysOf : Cond.code yX10_waysOf cX10_waysOf 5 (some .int) ∈ BIG := bw4 (i := 198) (by decide +kernel) (by decide +kernel)
theorem biX10_waysOf : Cond.instanceMethod yX10_waysOf ∈ BIG := bw4 (i := 197) (by decide +kernel) (by decide +kernel)
theorem bsX10_waysOf : Cond.selects RX10 yX10_waysOf yX10_waysOf ∈ BIG := bw0 (i := 38) (by decide +kernel) (by decide +kernel)
theorem hX10_waysOf : yX10_waysOf.cls ≠ "java/lang/invoke/MethodHandle" ∧ yX10_waysOf.cls ≠ "java/lang/invoke/VarHandle" ∧ (parseMethodDescriptor yX10_waysOf.desc).map (fun d => d.parameters.length) = some 0 := by decide +kernel
theorem hpX10_waysOf : plainName yX10_waysOf.cls = true := by decide +kernel
theorem bcX10_isNext : Cond.code yX10_isNext cX10_isNext 3 (some .boolean) ∈ BIG := bw4 (i := 213) (by decide +kernel) (by decide +kernel)
theorem biX10_isNext : Cond.instanceMethod yX10_isNext ∈ BIG := bw4 (i := 212) (by decide +kernel) (by decide +kernel)
theorem bsX10_isNext : Cond.selects RX10 yX10_isNext yX10_isNext ∈ BIG := bw0 (i := 41) (by decide +kernel) (by decide +kernel)
theorem hX10_isNext : yX10_isNext.cls ≠ "java/lang/invoke/MethodHandle" ∧ yX10_isNext.cls ≠ "java/lang/invoke/VarHandle" ∧ (parseMethodDescriptor yX10_isNext.desc).map (fun d => d.parameters.length) = some 1 := by decide +kernel
theorem hpX10_isNext : plainName yX10_isNext.cls = true := by decide +kernel
theorem bcX10_unlikes : Cond.code yX10_unlikes cX10_unlikes 4 (some .int) ∈ BIG := bw4 (i := 206) (by decide +kernel) (by decide +kernel)
theorem biX10_unlikes : Cond.instanceMethod yX10_unlikes ∈ BIG := bw4 (i := 205) (by decide +kernel) (by decide +kernel)
theorem bsX10_unlikes : Cond.selects RX10 yX10_unlikes yX10_unlikes ∈ BIG := bw0 (i := 40) (by decide +kernel) (by decide +kernel)
theorem hX10_unlikes : yX10_unlikes.cls ≠ "java/lang/invoke/MethodHandle" ∧ yX10_unlikes.cls ≠ "java/lang/invoke/VarHandle" ∧ (parseMethodDescriptor yX10_unlikes.desc).map (fun d => d.parameters.length) = some 0 := by decide +kernel
theorem hpX10_unlikes : plainName yX10_unlikes.cls = true := by decide +kernel
theorem bcX10_many : Cond.code yX10_many cX10_many 3 (some .int) ∈ BIG := bw4 (i := 209) (by decide +kernel) (by decide +kernel)
theorem btX10_many : Cond.static yX10_many ∈ BIG := bw4 (i := 208) (by decide +kernel) (by decide +kernel)
theorem hX10_many : yX10_many.cls ≠ "java/lang/invoke/MethodHandle" ∧ yX10_many.cls ≠ "java/lang/invoke/VarHandle" ∧ (parseMethodDescriptor yX10_many.desc).map (fun d => d.parameters.length) = some 1 := by decide +kernel
theorem hpX10_many : plainName yX10_many.cls = true := by decide +kernel
theorem bcX10_ways : Cond.code yX10_ways cX10_ways 1 (some .int) ∈ BIG := bw4 (i := 194) (by decide +kernel) (by decide +kernel)
theorem biX10_ways : Cond.instanceMethod yX10_ways ∈ BIG := bw4 (i := 192) (by decide +kernel) (by decide +kernel)
theorem bsX10_ways : Cond.selects RX10 yX10_ways yX10_ways ∈ BIG := bw4 (i := 193) (by decide +kernel) (by decide +kernel)
theorem hX10_ways : yX10_ways.cls ≠ "java/lang/invoke/MethodHandle" ∧ yX10_ways.cls ≠ "java/lang/invoke/VarHandle" ∧ (parseMethodDescriptor yX10_ways.desc).map (fun d => d.parameters.length) = some 0 := by decide +kernel
theorem hpX10_ways : plainName yX10_ways.cls = true := by decide +kernel
theorem bcX10_fewest : Cond.code yX10_fewest cX10_fewest 1 (some .int) ∈ BIG := bw4 (i := 217) (by decide +kernel) (by decide +kernel)
theorem biX10_fewest : Cond.instanceMethod yX10_fewest ∈ BIG := bw4 (i := 215) (by decide +kernel) (by decide +kernel)
theorem bsX10_fewest : Cond.selects RX10 yX10_fewest yX10_fewest ∈ BIG := bw4 (i := 216) (by decide +kernel) (by decide +kernel)
theorem hX10_fewest : yX10_fewest.cls ≠ "java/lang/invoke/MethodHandle" ∧ yX10_fewest.cls ≠ "java/lang/invoke/VarHandle" ∧ (parseMethodDescriptor yX10_fewest.desc).map (fun d => d.parameters.length) = some 0 := by decide +kernel
theorem hpX10_fewest : plainName yX10_fewest.cls = true := by decide +kernel
theorem bcX10_without : Cond.code yX10_without cX10_without 3 (some .int) ∈ BIG := bw4 (i := 229) (by decide +kernel) (by decide +kernel)
theorem biX10_without : Cond.instanceMethod yX10_without ∈ BIG := bw4 (i := 228) (by decide +kernel) (by decide +kernel)
theorem bsX10_without : Cond.selects RX10 yX10_without yX10_without ∈ BIG := bw0 (i := 43) (by decide +kernel) (by decide +kernel)
theorem hX10_without : yX10_without.cls ≠ "java/lang/invoke/MethodHandle" ∧ yX10_without.cls ≠ "java/lang/invoke/VarHandle" ∧ (parseMethodDescriptor yX10_without.desc).map (fun d => d.parameters.length) = some 1 := by decide +kernel
theorem hpX10_without : plainName yX10_without.cls = true := by decide +kernel
theorem bcX10_fresh : Cond.code yX10_fresh cX10_fresh 3 (some .int) ∈ BIG := bw4 (i := 225) (by decide +kernel) (by decide +kernel)
theorem biX10_fresh : Cond.instanceMethod yX10_fresh ∈ BIG := bw4 (i := 224) (by decide +kernel) (by decide +kernel)
theorem bsX10_fresh : Cond.selects RX10 yX10_fresh yX10_fresh ∈ BIG := bw0 (i := 42) (by decide +kernel) (by decide +kernel)
theorem hX10_fresh : yX10_fresh.cls ≠ "java/lang/invoke/MethodHandle" ∧ yX10_fresh.cls ≠ "java/lang/invoke/VarHandle" ∧ (parseMethodDescriptor yX10_fresh.desc).map (fun d => d.parameters.length) = some 0 := by decide +kernel
theorem hpX10_fresh : plainName yX10_fresh.cls = true := by decide +kernel
theorem bcX10_scrape : Cond.code yX10_scrape cX10_scrape 4 (some .int) ∈ BIG := bw4 (i := 221) (by decide +kernel) (by decide +kernel)
theorem biX10_scrape : Cond.instanceMethod yX10_scrape ∈ BIG := bw4 (i := 219) (by decide +kernel) (by decide +kernel)
theorem bsX10_scrape : Cond.selects RX10 yX10_scrape yX10_scrape ∈ BIG := bw4 (i := 220) (by decide +kernel) (by decide +kernel)
theorem hX10_scrape : yX10_scrape.cls ≠ "java/lang/invoke/MethodHandle" ∧ yX10_scrape.cls ≠ "java/lang/invoke/VarHandle" ∧ (parseMethodDescriptor yX10_scrape.desc).map (fun d => d.parameters.length) = some 1 := by decide +kernel
theorem hpX10_scrape : plainName yX10_scrape.cls = true := by decide +kernel
theorem bcX10_matters : Cond.code yX10_matters cX10_matters 3 (some .int) ∈ BIG := bw4 (i := 233) (by decide +kernel) (by decide +kernel)
theorem biX10_matters : Cond.instanceMethod yX10_matters ∈ BIG := bw4 (i := 231) (by decide +kernel) (by decide +kernel)
theorem bsX10_matters : Cond.selects RX10 yX10_matters yX10_matters ∈ BIG := bw4 (i := 232) (by decide +kernel) (by decide +kernel)
theorem hX10_matters : yX10_matters.cls ≠ "java/lang/invoke/MethodHandle" ∧ yX10_matters.cls ≠ "java/lang/invoke/VarHandle" ∧ (parseMethodDescriptor yX10_matters.desc).map (fun d => d.parameters.length) = some 0 := by decide +kernel
theorem hpX10_matters : plainName yX10_matters.cls = true := by decide +kernel
theorem bcX10_fills : Cond.code yX10_fills cX10_fills 6 none ∈ BIG := bw5 (i := 5) (by decide +kernel) (by decide +kernel)
theorem biX10_fills : Cond.instanceMethod yX10_fills ∈ BIG := bw5 (i := 4) (by decide +kernel) (by decide +kernel)
theorem bsX10_fills : Cond.selects RX10 yX10_fills yX10_fills ∈ BIG := bw0 (i := 45) (by decide +kernel) (by decide +kernel)
theorem hX10_fills : yX10_fills.cls ≠ "java/lang/invoke/MethodHandle" ∧ yX10_fills.cls ≠ "java/lang/invoke/VarHandle" ∧ (parseMethodDescriptor yX10_fills.desc).map (fun d => d.parameters.length) = some 2 := by decide +kernel
theorem hpX10_fills : plainName yX10_fills.cls = true := by decide +kernel
theorem bcX10_step : Cond.code yX10_step cX10_step 2 (some .int) ∈ BIG := bw5 (i := 9) (by decide +kernel) (by decide +kernel)
theorem biX10_step : Cond.instanceMethod yX10_step ∈ BIG := bw5 (i := 8) (by decide +kernel) (by decide +kernel)
theorem bsX10_step : Cond.selects RX10 yX10_step yX10_step ∈ BIG := bw0 (i := 46) (by decide +kernel) (by decide +kernel)
theorem hX10_step : yX10_step.cls ≠ "java/lang/invoke/MethodHandle" ∧ yX10_step.cls ≠ "java/lang/invoke/VarHandle" ∧ (parseMethodDescriptor yX10_step.desc).map (fun d => d.parameters.length) = some 1 := by decide +kernel
theorem hpX10_step : plainName yX10_step.cls = true := by decide +kernel
theorem bcX10_plays : Cond.code yX10_plays cX10_plays 11 none ∈ BIG := bw5 (i := 1) (by decide +kernel) (by decide +kernel)
theorem biX10_plays : Cond.instanceMethod yX10_plays ∈ BIG := bw5 (i := 0) (by decide +kernel) (by decide +kernel)
theorem bsX10_plays : Cond.selects RX10 yX10_plays yX10_plays ∈ BIG := bw0 (i := 44) (by decide +kernel) (by decide +kernel)
theorem hX10_plays : yX10_plays.cls ≠ "java/lang/invoke/MethodHandle" ∧ yX10_plays.cls ≠ "java/lang/invoke/VarHandle" ∧ (parseMethodDescriptor yX10_plays.desc).map (fun d => d.parameters.length) = some 1 := by decide +kernel
theorem hpX10_plays : plainName yX10_plays.cls = true := by decide +kernel
theorem bcX10_wins : Cond.code yX10_wins cX10_wins 3 (some .int) ∈ BIG := bw5 (i := 13) (by decide +kernel) (by decide +kernel)
theorem biX10_wins : Cond.instanceMethod yX10_wins ∈ BIG := bw5 (i := 12) (by decide +kernel) (by decide +kernel)
theorem bsX10_wins : Cond.selects RX10 yX10_wins yX10_wins ∈ BIG := bw0 (i := 47) (by decide +kernel) (by decide +kernel)
theorem hX10_wins : yX10_wins.cls ≠ "java/lang/invoke/MethodHandle" ∧ yX10_wins.cls ≠ "java/lang/invoke/VarHandle" ∧ (parseMethodDescriptor yX10_wins.desc).map (fun d => d.parameters.length) = some 0 := by decide +kernel
theorem hpX10_wins : plainName yX10_wins.cls = true := by decide +kernel
theorem bcX10_beer : Cond.code yX10_beer cX10_beer 2 (some .int) ∈ BIG := bw4 (i := 237) (by decide +kernel) (by decide +kernel)
theorem biX10_beer : Cond.instanceMethod yX10_beer ∈ BIG := bw4 (i := 235) (by decide +kernel) (by decide +kernel)
theorem bsX10_beer : Cond.selects RX10 yX10_beer yX10_beer ∈ BIG := bw4 (i := 236) (by decide +kernel) (by decide +kernel)
theorem hX10_beer : yX10_beer.cls ≠ "java/lang/invoke/MethodHandle" ∧ yX10_beer.cls ≠ "java/lang/invoke/VarHandle" ∧ (parseMethodDescriptor yX10_beer.desc).map (fun d => d.parameters.length) = some 1 := by decide +kernel
theorem hpX10_beer : plainName yX10_beer.cls = true := by decide +kernel
theorem bcX10_white : Cond.code yX10_white cX10_white 3 (some .int) ∈ BIG := bw5 (i := 17) (by decide +kernel) (by decide +kernel)
theorem biX10_white : Cond.instanceMethod yX10_white ∈ BIG := bw5 (i := 15) (by decide +kernel) (by decide +kernel)
theorem bsX10_white : Cond.selects RX10 yX10_white yX10_white ∈ BIG := bw5 (i := 16) (by decide +kernel) (by decide +kernel)
theorem hX10_white : yX10_white.cls ≠ "java/lang/invoke/MethodHandle" ∧ yX10_white.cls ≠ "java/lang/invoke/VarHandle" ∧ (parseMethodDescriptor yX10_white.desc).map (fun d => d.parameters.length) = some 2 := by decide +kernel
theorem hpX10_white : plainName yX10_white.cls = true := by decide +kernel
theorem bcX10_isBy : Cond.code yX10_isBy cX10_isBy 3 (some .boolean) ∈ BIG := bw5 (i := 29) (by decide +kernel) (by decide +kernel)
theorem biX10_isBy : Cond.instanceMethod yX10_isBy ∈ BIG := bw5 (i := 28) (by decide +kernel) (by decide +kernel)
theorem bsX10_isBy : Cond.selects RX10 yX10_isBy yX10_isBy ∈ BIG := bw0 (i := 49) (by decide +kernel) (by decide +kernel)
theorem hX10_isBy : yX10_isBy.cls ≠ "java/lang/invoke/MethodHandle" ∧ yX10_isBy.cls ≠ "java/lang/invoke/VarHandle" ∧ (parseMethodDescriptor yX10_isBy.desc).map (fun d => d.parameters.length) = some 2 := by decide +kernel
theorem hpX10_isBy : plainName yX10_isBy.cls = true := by decide +kernel
theorem bcX10_ordersOf : Cond.code yX10_ordersOf cX10_ordersOf 5 (some .int) ∈ BIG := bw5 (i := 25) (by decide +kernel) (by decide +kernel)
theorem biX10_ordersOf : Cond.instanceMethod yX10_ordersOf ∈ BIG := bw5 (i := 24) (by decide +kernel) (by decide +kernel)
theorem bsX10_ordersOf : Cond.selects RX10 yX10_ordersOf yX10_ordersOf ∈ BIG := bw0 (i := 48) (by decide +kernel) (by decide +kernel)
theorem hX10_ordersOf : yX10_ordersOf.cls ≠ "java/lang/invoke/MethodHandle" ∧ yX10_ordersOf.cls ≠ "java/lang/invoke/VarHandle" ∧ (parseMethodDescriptor yX10_ordersOf.desc).map (fun d => d.parameters.length) = some 0 := by decide +kernel
theorem hpX10_ordersOf : plainName yX10_ordersOf.cls = true := by decide +kernel
theorem bcX10_orders : Cond.code yX10_orders cX10_orders 1 (some .int) ∈ BIG := bw5 (i := 21) (by decide +kernel) (by decide +kernel)
theorem biX10_orders : Cond.instanceMethod yX10_orders ∈ BIG := bw5 (i := 19) (by decide +kernel) (by decide +kernel)
theorem bsX10_orders : Cond.selects RX10 yX10_orders yX10_orders ∈ BIG := bw5 (i := 20) (by decide +kernel) (by decide +kernel)
theorem hX10_orders : yX10_orders.cls ≠ "java/lang/invoke/MethodHandle" ∧ yX10_orders.cls ≠ "java/lang/invoke/VarHandle" ∧ (parseMethodDescriptor yX10_orders.desc).map (fun d => d.parameters.length) = some 0 := by decide +kernel
theorem hpX10_orders : plainName yX10_orders.cls = true := by decide +kernel
theorem bcX10_only : Cond.code yX10_only cX10_only 7 (some .int) ∈ BIG := bw5 (i := 33) (by decide +kernel) (by decide +kernel)
theorem biX10_only : Cond.instanceMethod yX10_only ∈ BIG := bw5 (i := 31) (by decide +kernel) (by decide +kernel)
theorem bsX10_only : Cond.selects RX10 yX10_only yX10_only ∈ BIG := bw5 (i := 32) (by decide +kernel) (by decide +kernel)
theorem hX10_only : yX10_only.cls ≠ "java/lang/invoke/MethodHandle" ∧ yX10_only.cls ≠ "java/lang/invoke/VarHandle" ∧ (parseMethodDescriptor yX10_only.desc).map (fun d => d.parameters.length) = some 1 := by decide +kernel
theorem hpX10_only : plainName yX10_only.cls = true := by decide +kernel
theorem bcX10_stuckNext : Cond.code yX10_stuckNext cX10_stuckNext 7 (some .long) ∈ BIG := bw5 (i := 43) (by decide +kernel) (by decide +kernel)
theorem biX10_stuckNext : Cond.instanceMethod yX10_stuckNext ∈ BIG := bw5 (i := 42) (by decide +kernel) (by decide +kernel)
theorem bsX10_stuckNext : Cond.selects RX10 yX10_stuckNext yX10_stuckNext ∈ BIG := bw0 (i := 50) (by decide +kernel) (by decide +kernel)
theorem hX10_stuckNext : yX10_stuckNext.cls ≠ "java/lang/invoke/MethodHandle" ∧ yX10_stuckNext.cls ≠ "java/lang/invoke/VarHandle" ∧ (parseMethodDescriptor yX10_stuckNext.desc).map (fun d => d.parameters.length) = some 0 := by decide +kernel
theorem hpX10_stuckNext : plainName yX10_stuckNext.cls = true := by decide +kernel
theorem bcX10_takesBack : Cond.code yX10_takesBack cX10_takesBack 2 none ∈ BIG := bw5 (i := 47) (by decide +kernel) (by decide +kernel)
theorem biX10_takesBack : Cond.instanceMethod yX10_takesBack ∈ BIG := bw5 (i := 46) (by decide +kernel) (by decide +kernel)
theorem bsX10_takesBack : Cond.selects RX10 yX10_takesBack yX10_takesBack ∈ BIG := bw0 (i := 51) (by decide +kernel) (by decide +kernel)
theorem hX10_takesBack : yX10_takesBack.cls ≠ "java/lang/invoke/MethodHandle" ∧ yX10_takesBack.cls ≠ "java/lang/invoke/VarHandle" ∧ (parseMethodDescriptor yX10_takesBack.desc).map (fun d => d.parameters.length) = some 0 := by decide +kernel
theorem hpX10_takesBack : plainName yX10_takesBack.cls = true := by decide +kernel
theorem bcX10_odds : Cond.code yX10_odds cX10_odds 14 (some .long) ∈ BIG := bw5 (i := 37) (by decide +kernel) (by decide +kernel)
theorem biX10_odds : Cond.instanceMethod yX10_odds ∈ BIG := bw5 (i := 35) (by decide +kernel) (by decide +kernel)
theorem bsX10_odds : Cond.selects RX10 yX10_odds yX10_odds ∈ BIG := bw5 (i := 36) (by decide +kernel) (by decide +kernel)
theorem hX10_odds : yX10_odds.cls ≠ "java/lang/invoke/MethodHandle" ∧ yX10_odds.cls ≠ "java/lang/invoke/VarHandle" ∧ (parseMethodDescriptor yX10_odds.desc).map (fun d => d.parameters.length) = some 2 := by decide +kernel
theorem hpX10_odds : plainName yX10_odds.cls = true := by decide +kernel
theorem bcX10_evening : Cond.code yX10_evening cX10_evening 7 (some .int) ∈ BIG := bw5 (i := 51) (by decide +kernel) (by decide +kernel)
theorem biX10_evening : Cond.instanceMethod yX10_evening ∈ BIG := bw5 (i := 49) (by decide +kernel) (by decide +kernel)
theorem bsX10_evening : Cond.selects RX10 yX10_evening yX10_evening ∈ BIG := bw5 (i := 50) (by decide +kernel) (by decide +kernel)
theorem hX10_evening : yX10_evening.cls ≠ "java/lang/invoke/MethodHandle" ∧ yX10_evening.cls ≠ "java/lang/invoke/VarHandle" ∧ (parseMethodDescriptor yX10_evening.desc).map (fun d => d.parameters.length) = some 2 := by decide +kernel
theorem hpX10_evening : plainName yX10_evening.cls = true := by decide +kernel
theorem bcX10_draws : Cond.code yX10_draws cX10_draws 6 none ∈ BIG := bw5 (i := 59) (by decide +kernel) (by decide +kernel)
theorem biX10_draws : Cond.instanceMethod yX10_draws ∈ BIG := bw5 (i := 58) (by decide +kernel) (by decide +kernel)
theorem bsX10_draws : Cond.selects RX10 yX10_draws yX10_draws ∈ BIG := bw0 (i := 52) (by decide +kernel) (by decide +kernel)
theorem hX10_draws : yX10_draws.cls ≠ "java/lang/invoke/MethodHandle" ∧ yX10_draws.cls ≠ "java/lang/invoke/VarHandle" ∧ (parseMethodDescriptor yX10_draws.desc).map (fun d => d.parameters.length) = some 1 := by decide +kernel
theorem hpX10_draws : plainName yX10_draws.cls = true := by decide +kernel
theorem bcX10_keep : Cond.code yX10_keep cX10_keep 1 (some .int) ∈ BIG := bw5 (i := 63) (by decide +kernel) (by decide +kernel)
theorem biX10_keep : Cond.instanceMethod yX10_keep ∈ BIG := bw5 (i := 61) (by decide +kernel) (by decide +kernel)
theorem bsX10_keep : Cond.selects RX10 yX10_keep yX10_keep ∈ BIG := bw5 (i := 62) (by decide +kernel) (by decide +kernel)
theorem hX10_keep : yX10_keep.cls ≠ "java/lang/invoke/MethodHandle" ∧ yX10_keep.cls ≠ "java/lang/invoke/VarHandle" ∧ (parseMethodDescriptor yX10_keep.desc).map (fun d => d.parameters.length) = some 0 := by decide +kernel
theorem hpX10_keep : plainName yX10_keep.cls = true := by decide +kernel
theorem bcX10_back : Cond.code yX10_back cX10_back 1 (some .int) ∈ BIG := bw5 (i := 67) (by decide +kernel) (by decide +kernel)
theorem biX10_back : Cond.instanceMethod yX10_back ∈ BIG := bw5 (i := 65) (by decide +kernel) (by decide +kernel)
theorem bsX10_back : Cond.selects RX10 yX10_back yX10_back ∈ BIG := bw5 (i := 66) (by decide +kernel) (by decide +kernel)
theorem hX10_back : yX10_back.cls ≠ "java/lang/invoke/MethodHandle" ∧ yX10_back.cls ≠ "java/lang/invoke/VarHandle" ∧ (parseMethodDescriptor yX10_back.desc).map (fun d => d.parameters.length) = some 0 := by decide +kernel
theorem hpX10_back : plainName yX10_back.cls = true := by decide +kernel
theorem bcX10_count : Cond.code yX10_count cX10_count 2 (some .int) ∈ BIG := bw5 (i := 71) (by decide +kernel) (by decide +kernel)
theorem biX10_count : Cond.instanceMethod yX10_count ∈ BIG := bw5 (i := 69) (by decide +kernel) (by decide +kernel)
theorem bsX10_count : Cond.selects RX10 yX10_count yX10_count ∈ BIG := bw5 (i := 70) (by decide +kernel) (by decide +kernel)
theorem hX10_count : yX10_count.cls ≠ "java/lang/invoke/MethodHandle" ∧ yX10_count.cls ≠ "java/lang/invoke/VarHandle" ∧ (parseMethodDescriptor yX10_count.desc).map (fun d => d.parameters.length) = some 1 := by decide +kernel
theorem hpX10_count : plainName yX10_count.cls = true := by decide +kernel
theorem bcJ6_bitCount_0f7a4 : Cond.code yJ6_bitCount_0f7a4 cJ6_bitCount_0f7a4 1 (some .int) ∈ BIG := bw2 (i := 198) (by decide +kernel) (by decide +kernel)
theorem btJ6_bitCount_0f7a4 : Cond.static yJ6_bitCount_0f7a4 ∈ BIG := bw2 (i := 197) (by decide +kernel) (by decide +kernel)
theorem bzJ6 : Cond.initialized RJ6 ∈ BIG := bw1 (i := 12) (by decide +kernel) (by decide +kernel)
theorem hJ6_bitCount_0f7a4 : yJ6_bitCount_0f7a4.cls ≠ "java/lang/invoke/MethodHandle" ∧ yJ6_bitCount_0f7a4.cls ≠ "java/lang/invoke/VarHandle" ∧ (parseMethodDescriptor yJ6_bitCount_0f7a4.desc).map (fun d => d.parameters.length) = some 1 := by decide +kernel
theorem hpJ6_bitCount_0f7a4 : plainName yJ6_bitCount_0f7a4.cls = true := by decide +kernel
theorem bcJ9_min_7cf53 : Cond.code yJ9_min_7cf53 cJ9_min_7cf53 2 (some .int) ∈ BIG := bw2 (i := 212) (by decide +kernel) (by decide +kernel)
theorem btJ9_min_7cf53 : Cond.static yJ9_min_7cf53 ∈ BIG := bw2 (i := 211) (by decide +kernel) (by decide +kernel)
theorem bzJ9 : Cond.initialized RJ9 ∈ BIG := bw1 (i := 13) (by decide +kernel) (by decide +kernel)
theorem hJ9_min_7cf53 : yJ9_min_7cf53.cls ≠ "java/lang/invoke/MethodHandle" ∧ yJ9_min_7cf53.cls ≠ "java/lang/invoke/VarHandle" ∧ (parseMethodDescriptor yJ9_min_7cf53.desc).map (fun d => d.parameters.length) = some 2 := by decide +kernel
theorem bcJ7_fill_53178 : Cond.code yJ7_fill_53178 cJ7_fill_53178 4 none ∈ BIG := bw2 (i := 139) (by decide +kernel) (by decide +kernel)
theorem btJ7_fill_53178 : Cond.static yJ7_fill_53178 ∈ BIG := bw2 (i := 138) (by decide +kernel) (by decide +kernel)
theorem bzJ7 : Cond.initialized RJ7 ∈ BIG := bw1 (i := 10) (by decide +kernel) (by decide +kernel)
theorem hJ7_fill_53178 : yJ7_fill_53178.cls ≠ "java/lang/invoke/MethodHandle" ∧ yJ7_fill_53178.cls ≠ "java/lang/invoke/VarHandle" ∧ (parseMethodDescriptor yJ7_fill_53178.desc).map (fun d => d.parameters.length) = some 2 := by decide +kernel
theorem hpJ7_fill_53178 : plainName yJ7_fill_53178.cls = true := by decide +kernel
theorem bkJ6_265 : Cond.constant RJ6 265 (1431655765) ∈ BIG := bw2 (i := 199) (by decide +kernel) (by decide +kernel)
theorem bkJ6_266 : Cond.constant RJ6 266 (858993459) ∈ BIG := bw2 (i := 200) (by decide +kernel) (by decide +kernel)
theorem bkJ6_267 : Cond.constant RJ6 267 (252645135) ∈ BIG := bw2 (i := 201) (by decide +kernel) (by decide +kernel)
theorem bkX0_61 : Cond.constant RX0 61 (-1640531535) ∈ BIG := bw3 (i := 110) (by decide +kernel) (by decide +kernel)
theorem bkX10_39 : Cond.constant RX10 39 (262144) ∈ BIG := bw3 (i := 233) (by decide +kernel) (by decide +kernel)
theorem bKX7_38 : Cond.constantLong RX7 38 (15) ∈ BIG := bw2 (i := 217) (by decide +kernel) (by decide +kernel)
theorem bKX7_60 : Cond.constantLong RX7 60 (134217727) ∈ BIG := bw2 (i := 239) (by decide +kernel) (by decide +kernel)
theorem bKX9_198 : Cond.constantLong RX9 198 (-1) ∈ BIG := bw3 (i := 168) (by decide +kernel) (by decide +kernel)
theorem bKX1_51 : Cond.constantLong RX1 51 (7919) ∈ BIG := bw3 (i := 200) (by decide +kernel) (by decide +kernel)
theorem bKX1_53 : Cond.constantLong RX1 53 (6151) ∈ BIG := bw3 (i := 201) (by decide +kernel) (by decide +kernel)
theorem bKX1_55 : Cond.constantLong RX1 55 (65521) ∈ BIG := bw3 (i := 202) (by decide +kernel) (by decide +kernel)
theorem bKX10_58 : Cond.constantLong RX10 58 (8) ∈ BIG := bw4 (i := 71) (by decide +kernel) (by decide +kernel)
theorem bKX10_71 : Cond.constantLong RX10 71 (48) ∈ BIG := bw4 (i := 94) (by decide +kernel) (by decide +kernel)
theorem bKX10_73 : Cond.constantLong RX10 73 (57) ∈ BIG := bw4 (i := 95) (by decide +kernel) (by decide +kernel)
theorem bKX10_75 : Cond.constantLong RX10 75 (2) ∈ BIG := bw4 (i := 96) (by decide +kernel) (by decide +kernel)
theorem bKX10_89 : Cond.constantLong RX10 89 (3) ∈ BIG := bw4 (i := 101) (by decide +kernel) (by decide +kernel)
theorem bKX10_198 : Cond.constantLong RX10 198 (-1) ∈ BIG := bw5 (i := 38) (by decide +kernel) (by decide +kernel)
theorem bKX10_193 : Cond.constantLong RX10 193 (80313433200) ∈ BIG := bw5 (i := 39) (by decide +kernel) (by decide +kernel)
theorem bKX10_204 : Cond.constantLong RX10 204 (9999) ∈ BIG := bw5 (i := 52) (by decide +kernel) (by decide +kernel)
theorem bKX10_206 : Cond.constantLong RX10 206 (7919) ∈ BIG := bw5 (i := 53) (by decide +kernel) (by decide +kernel)
theorem bKX10_208 : Cond.constantLong RX10 208 (6151) ∈ BIG := bw5 (i := 54) (by decide +kernel) (by decide +kernel)
theorem bKX10_210 : Cond.constantLong RX10 210 (65521) ∈ BIG := bw5 (i := 55) (by decide +kernel) (by decide +kernel)
theorem bKL_13 : Cond.constantLong RL 13 (4294967295) ∈ BIG := bw5 (i := 72) (by decide +kernel) (by decide +kernel)
theorem blL_7 : Cond.classLink RL 7 RX9 ∈ BIG := bw1 (i := 16) (by decide +kernel) (by decide +kernel)
theorem bnX9 : Cond.instantiable RX9 8 ∈ BIG := bw1 (i := 17) (by decide +kernel) (by decide +kernel)
theorem blX9_9 : Cond.classLink RX9 9 RX6 ∈ BIG := bw1 (i := 24) (by decide +kernel) (by decide +kernel)
theorem bnX6 : Cond.instantiable RX6 2 ∈ BIG := bw1 (i := 25) (by decide +kernel) (by decide +kernel)
theorem blX9_16 : Cond.classLink RX9 16 RX4 ∈ BIG := bw1 (i := 40) (by decide +kernel) (by decide +kernel)
theorem bnX4 : Cond.instantiable RX4 5 ∈ BIG := bw1 (i := 41) (by decide +kernel) (by decide +kernel)
theorem blX9_23 : Cond.classLink RX9 23 RX7 ∈ BIG := bw1 (i := 62) (by decide +kernel) (by decide +kernel)
theorem bnX7 : Cond.instantiable RX7 7 ∈ BIG := bw1 (i := 63) (by decide +kernel) (by decide +kernel)
theorem blX9_30 : Cond.classLink RX9 30 RX5 ∈ BIG := bw1 (i := 95) (by decide +kernel) (by decide +kernel)
theorem bnX5 : Cond.instantiable RX5 2 ∈ BIG := bw1 (i := 96) (by decide +kernel) (by decide +kernel)
theorem blX9_37 : Cond.classLink RX9 37 RX0 ∈ BIG := bw1 (i := 110) (by decide +kernel) (by decide +kernel)
theorem bnX0 : Cond.instantiable RX0 1 ∈ BIG := bw1 (i := 111) (by decide +kernel) (by decide +kernel)
theorem blX9_44 : Cond.classLink RX9 44 RX1 ∈ BIG := bw1 (i := 120) (by decide +kernel) (by decide +kernel)
theorem bnX1 : Cond.instantiable RX1 2 ∈ BIG := bw1 (i := 121) (by decide +kernel) (by decide +kernel)
theorem blX9_51 : Cond.classLink RX9 51 RX3 ∈ BIG := bw1 (i := 133) (by decide +kernel) (by decide +kernel)
theorem bnX3 : Cond.instantiable RX3 14 ∈ BIG := bw1 (i := 134) (by decide +kernel) (by decide +kernel)
theorem blL_10 : Cond.classLink RL 10 RX10 ∈ BIG := bw3 (i := 227) (by decide +kernel) (by decide +kernel)
theorem bnX10 : Cond.instantiable RX10 21 ∈ BIG := bw3 (i := 228) (by decide +kernel) (by decide +kernel)
theorem ibX0 : ∀ w ∈ u_ws RX0 TX0 1, w ∈ BIG := bw_all [117] (by decide +kernel) (by decide +kernel)
theorem ibX1 : ∀ w ∈ u_ws RX1 TX1 2, w ∈ BIG := bw_all [128, 130] (by decide +kernel) (by decide +kernel)
theorem ibX3 : ∀ w ∈ u_ws RX3 TX3 14, w ∈ BIG := bw_all [200, 202, 204, 206, 208, 210, 212, 214, 216, 218, 220, 222, 224, 226] (by decide +kernel) (by decide +kernel)
theorem ibX4 : ∀ w ∈ u_ws RX4 TX4 5, w ∈ BIG := bw_all [51, 53, 55, 57, 59] (by decide +kernel) (by decide +kernel)
theorem ibX5 : ∀ w ∈ u_ws RX5 TX5 2, w ∈ BIG := bw_all [104, 106] (by decide +kernel) (by decide +kernel)
theorem ibX6 : ∀ w ∈ u_ws RX6 TX6 2, w ∈ BIG := bw_all [34, 36] (by decide +kernel) (by decide +kernel)
theorem ibX7 : ∀ w ∈ u_ws RX7 TX7 7, w ∈ BIG := bw_all [79, 81, 83, 85, 87, 89, 91] (by decide +kernel) (by decide +kernel)
theorem ibX9 : ∀ w ∈ u_ws RX9 TX9 8, w ∈ BIG := bw_all [237, 239, 241, 243, 245, 247, 249, 251] (by decide +kernel) (by decide +kernel)
theorem ibX10 : ∀ w ∈ u_ws RX10 TX10 21, w ∈ BIG := bw_all [743, 745, 747, 749, 751, 753, 755, 757, 759, 761, 763, 765, 767, 769, 771, 773, 775, 777, 779, 781, 783] (by decide +kernel) (by decide +kernel)
theorem boc : Cond.code Lib.objectInit ⟨#[0xb1]⟩ 1 none ∈ BIG := bw1 (i := 23) (by decide +kernel) (by decide +kernel)
theorem boi : Cond.instanceMethod Lib.objectInit ∈ BIG := bw1 (i := 22) (by decide +kernel) (by decide +kernel)
theorem bac_n : Cond.native arraycopyName ∈ BIG := bw2 (i := 191) (by decide +kernel) (by decide +kernel)
theorem bac_s : Cond.static arraycopyName ∈ BIG := bw2 (i := 190) (by decide +kernel) (by decide +kernel)
theorem bac_i : Cond.initialized "java/lang/System" ∈ BIG := bw1 (i := 11) (by decide +kernel) (by decide +kernel)
theorem baa_int : Cond.arrayClass .int ∈ BIG := bw1 (i := 109) (by decide +kernel) (by decide +kernel)
theorem baa_long : Cond.arrayClass .long ∈ BIG := bw1 (i := 94) (by decide +kernel) (by decide +kernel)
theorem baa_byte : Cond.arrayClass .byte ∈ BIG := bw1 (i := 39) (by decide +kernel) (by decide +kernel)
theorem baa_boolean : Cond.arrayClass .boolean ∈ BIG := bw4 (i := 66) (by decide +kernel) (by decide +kernel)
