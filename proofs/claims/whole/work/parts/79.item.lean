/-! one item of a plan's text -/
def IRes (L : JL) (a len : Nat) (rx : Int32 × Int32 × Int32 × Int32 × Int32 × Int32 × Int32 × Int32 × Int32 × Int32 × Int32 × Int32 × Int32 × Int32) (rm : Int32 × Int32 × (Nat → Int32) × (Nat → Int32) × (Nat → Int32) × (Nat → Int32) × (Nat → Int32)) : Prop :=
  (rx.1 = 0 ∧ rm.1 = 0 ∧ MR L.1 L.2.1 rm.2.2.1 rm.2.2.2.1 rm.2.2.2.2.1 rm.2.2.2.2.2.1 L.2.2) ∨ (rx.1 = 1 ∧ rm.1 = 1 ∧ ∃ (b : Nat), a < b ∧ b ≤ len ∧ rx.2.1 = nI b ∧ rm.2.1 = nI b ∧ ∃ (g : JP) (st pt : Bool), DR L g st pt rx.2.2.2.2.1 rx.2.2.2.2.2.1 rx.2.2.2.2.2.2.1 rx.2.2.2.2.2.2.2.1 rx.2.2.2.2.2.2.2.2.1 rx.2.2.2.2.2.2.2.2.2.1 rx.2.2.2.2.2.2.2.2.2.2.1 rx.2.2.2.2.2.2.2.2.2.2.2.1 rx.2.2.2.2.2.2.2.2.2.2.2.2.1 rx.2.2.2.2.2.2.2.2.2.2.2.2.2 rm.2.2.1 rm.2.2.2.1 rm.2.2.2.2.1 rm.2.2.2.2.2.1)
def KP (rm : Int32 × Int32 × (Nat → Int32) × (Nat → Int32) × (Nat → Int32) × (Nat → Int32) × (Nat → Int32)) (told touches has old_ : Nat → Int32) : Prop := rm.1 = 0 ∧ rm.2.2.1 = told ∧ rm.2.2.2.1 = touches ∧ rm.2.2.2.2.1 = has ∧ rm.2.2.2.2.2.1 = old_
theorem KP.mr {L : JL} {rm : Int32 × Int32 × (Nat → Int32) × (Nat → Int32) × (Nat → Int32) × (Nat → Int32) × (Nat → Int32)} {told touches has old_ : Nat → Int32} (h : KP rm told touches has old_) (hL : MR L.1 L.2.1 told touches has old_ L.2.2) : rm.1 = 0 ∧ MR L.1 L.2.1 rm.2.2.1 rm.2.2.2.1 rm.2.2.2.2.1 rm.2.2.2.2.2.1 L.2.2 := by
  obtain ⟨h0, h1, h2, h3, h4⟩ := h
  rw [h1, h2, h3, h4]; exact ⟨h0, hL⟩
theorem DR.mr {L : JL} {g : JP} {st pt : Bool} {stT ptT rows columns paints apart po0 po1 old shut : Int32} {told touches has old_ : Nat → Int32} (h : DR L g st pt stT ptT rows columns paints apart po0 po1 old shut told touches has old_) : MR L.1 L.2.1 told touches has old_ L.2.2 := h.2.2.2.2.2.2.2.2.2.2
theorem item_fin {L : JL} {stT ptT rows columns paints apart po0 po1 old shut l : Int32} {told touches has old_ got xb yt : Nat → Int32} {len u v a b : Nat} {F : Nat} (hu : u ≤ 99) (hv : v ≤ 99) (hab : a < b + 1) (hbl : b + 1 ≤ len) (hl : len ≤ 200)
    (h : ∃ rx rm, fX4_takes (nI u) (nI v) stT ptT rows columns paints apart po0 po1 old shut l = some rx ∧ fX10_isGood told touches has old_ got l = some rm ∧ TK L rx rm) :
    ∃ rx rm, fX4_item_83 F (nI len) xb l (nI (b + 1)) (nI u) (nI v) stT ptT rows columns paints apart po0 po1 old shut = some rx ∧ fX10_isItem_178 F (nI len) yt l (nI 1) (nI b) told touches has old_ got = some rm ∧ IRes L a len rx rm := by
  obtain ⟨⟨x0, x1, x2, x3, x4, x5, x6, x7, x8, x9, x10⟩, ⟨y0, y1, y2, y3, y4⟩, h1, h2, h3⟩ := h
  unfold fX4_item_83 fX10_isItem_178
  rw [if_neg (show ¬ nI u < 0 from fun q => nI_pos (by omega) q), if_neg (show ¬ nI v < 0 from fun q => nI_pos (by omega) q), h1, h2]
  simp only [jl_let_eq, Option.bind_some]
  rw [if_neg (show ¬ nI 1 = 0 by decide)]
  rcases h3 with ⟨e1, e2, hM⟩ | ⟨e1, e2, hD⟩ <;> replace e1 : x0 = _ := e1 <;> replace e2 : y0 = _ := e2
  · rw [if_pos e1, if_pos e2]
    exact ⟨_, _, rfl, rfl, Or.inl ⟨Eq.refl (0 : Int32), Eq.refl (0 : Int32), hM⟩⟩
  · rw [if_neg (by rw [e1]; decide), if_neg (by rw [e2]; decide)]
    exact ⟨_, _, rfl, rfl, Or.inr ⟨Eq.refl (1 : Int32), Eq.refl (1 : Int32), b + 1, hab, hbl, rfl, nI_add b 1, hD⟩⟩
theorem item_bad {rows columns paints apart po0 po1 old shut l stT ptT at_ first second : Int32} {xb : Nat → Int32} {lenI : Int32} {F : Nat} (h : first < 0 ∨ second < 0) :
    ∃ rx, fX4_item_83 F lenI xb l at_ first second stT ptT rows columns paints apart po0 po1 old shut = some rx ∧ rx.1 = 0 := by
  unfold fX4_item_83
  by_cases h1 : first < 0
  · rw [if_pos h1]; exact ⟨_, rfl, Eq.refl (0 : Int32)⟩
  · rw [if_neg h1]
    rw [if_pos (h.resolve_left h1)]; exact ⟨_, rfl, Eq.refl (0 : Int32)⟩
theorem isItem_bad {l at_ lenI : Int32} {told touches has old_ got yt : Nat → Int32} {F : Nat} : ∃ rm, fX10_isItem_177 F lenI yt l at_ told touches has old_ got = some rm ∧ KP rm told touches has old_ := by
  unfold fX10_isItem_177 fX10_isItem_178
  simp only [jl_let_eq]
  rw [if_pos trivial]; exact ⟨_, rfl, Eq.refl (0 : Int32), rfl, rfl, rfl, rfl⟩
theorem isItem_end {len : Nat} {xb yt : Nat → Int32} (hl : len ≤ 200) (h : ITc len xb yt) {l : Int32} {told touches has old_ got : Nat → Int32} {a F : Nat} (ha : a ≤ len) :
    fX10_isItem_144 F (nI len) yt l (nI 1) (nI a) told touches has old_ got = if a < len ∧ ck yt a = 59 then fX10_isItem_178 F (nI len) yt l (nI 1) (nI a) told touches has old_ got else fX10_isItem_177 F (nI len) yt l (nI a) told touches has old_ got := by
  unfold fX10_isItem_144
  rw [if_neg (show ¬ nI 1 = 0 by decide)]
  by_cases e : a < len
  · have e59 : (yt a = 59) = (ck yt a = 59) := by
      rw [ck_eq (h a e).2]
      have := by_eq (ck_lt yt a) (c := 59) (by omega)
      rw [← ck_eq (h a e).2] at this ⊢
      exact this
    rw [if_neg (by rw [nI_leI (by omega) (by omega)]; omega), if_neg (by
      rw [nI_clamp (by omega)]
      rintro (q | q)
      · exact nI_pos (by omega) q
      · omega), nI_clamp (by omega)]
    simp only [e59, e, true_and]
    rfl
  · rw [if_pos (by rw [nI_leI (by omega) (by omega)]; omega), if_neg (fun q => e q.1)]
theorem isItem_bad0 {l at_ lenI : Int32} {told touches has old_ got yt : Nat → Int32} {F : Nat} : ∃ rm, fX10_isItem_144 F lenI yt l (nI 0) at_ told touches has old_ got = some rm ∧ KP rm told touches has old_ := by
  unfold fX10_isItem_144
  rw [if_pos (show nI 0 = 0 from rfl)]
  exact isItem_bad
theorem isItem_stop {l lenI at_ : Int32} {told touches has old_ got yt : Nat → Int32} {F n : Nat} {c i : Int32} : ∃ rm, jl_loop10 (bX10_isItem_38 F lenI yt) (n + 1) l c (nI 0) i at_ told touches has old_ got = some rm ∧ KP rm told touches has old_ := by
  rw [jl_loop10_s]
  unfold bX10_isItem_38
  by_cases h : c ≤ i
  · rw [if_pos h]; exact isItem_bad0
  · rw [if_neg h, if_pos (show nI 0 = 0 from rfl)]; exact isItem_bad0
theorem num_step {len : Nat} {xb yt : Nat → Int32} (hl : len ≤ 200) (h : ITc len xb yt) {l c : Int32} {told touches has old_ got : Nat → Int32} {a dx i F : Nat} (ha : a + dx ≤ len) (hi : i < 2) (hF : 202 ≤ F) (K : Int32 → Int32 → Int32 → Int32 → Int32 → (Nat → Int32) → (Nat → Int32) → (Nat → Int32) → (Nat → Int32) → (Nat → Int32) → Option (Int32 × Int32 × (Nat → Int32) × (Nat → Int32) × (Nat → Int32) × (Nat → Int32) × (Nat → Int32))) :
    fX10_isItem_99 F (nI len) yt K l c (nI 1) (nI i) (nI dx) (nI a) (nI a) told touches has old_ got = if 1 ≤ fc (ck yt) (len - (a + dx)) (a + dx) ∧ fc (ck yt) (len - (a + dx)) (a + dx) ≤ 2 then K l c (nI 1) (nI (i + 1)) (nI (a + dx + fc (ck yt) (len - (a + dx)) (a + dx))) told touches has old_ (upd got i (nI (fv (ck yt) (len - (a + dx)) (a + dx) 0))) else K l c (nI 0) (nI (i + 1)) (nI (a + dx + fc (ck yt) (len - (a + dx)) (a + dx))) told touches has old_ (upd got i (-1)) := by
  unfold fX10_isItem_99 fX10_number lX10_number_4
  simp only [jl_let_eq]
  rw [if_neg (show ¬ nI 1 = 0 by decide), nI_add, show (0 : Int32) = nI 0 from rfl, number_m hl h F (len - (a + dx)) (a + dx) 0 0 (nI 0) (by omega) (fun _ => rfl) (by omega) F (by omega), Option.bind_some, Nat.zero_add]
  unfold fX10_isItem_121 fX10_isItem_137
  dsimp only
  rw [nI_clamp (by omega), if_neg (by
      rintro (q | q)
      · exact nI_pos (by omega) q
      · omega)]
  simp only [jl_let_eq]
  rw [if_neg (by
      rintro (q | q)
      · exact nI_pos (by omega) q
      · omega), upd_s rfl, ni_of1, nI_add]
  have hc := fc_le (ck yt) (len - (a + dx)) (a + dx)
  by_cases z : 1 ≤ fc (ck yt) (len - (a + dx)) (a + dx) ∧ fc (ck yt) (len - (a + dx)) (a + dx) ≤ 2
  · rw [if_pos z, if_pos z]
    have hv := fv_99 (ck yt) (len - (a + dx)) (a + dx) 0 0 (by omega) (by decide)
    rw [if_neg (fun q => nI_pos (show fv (ck yt) (len - (a + dx)) (a + dx) 0 < 2 ^ 31 by omega) q)]; rfl
  · rw [if_neg z, if_neg z, if_pos (show (-1 : Int32) < 0 by decide)]; rfl
theorem number_x' {len : Nat} {xb yt : Nat → Int32} (hl : len ≤ 200) (h : ITc len xb yt) {sign : Nat} (hs : fg sign = false) (hs2 : sign < 128) {a : Nat} (ha : a ≤ len) {F : Nat} (hF : 202 ≤ F) :
    ∃ j, fX4_number F (nI a) (nI len) xb (nI sign) = some (if (1 ≤ fc (ck yt) (len - a) a ∧ fc (ck yt) (len - a) a ≤ 2) ∧ a + fc (ck yt) (len - a) a < len ∧ ck yt (a + fc (ck yt) (len - a) a) = sign then (nI (fv (ck yt) (len - a) a 0), nI (a + fc (ck yt) (len - a) a + 1)) else (-1, j)) := by
  obtain ⟨f, rfl⟩ : ∃ f, F = f + 3 := ⟨F - 3, by omega⟩
  exact number_x hl h hs hs2 (show a + (len - a) = len by omega) (f + 3) f
/-- letters that want one number -/
theorem item_one {L : JL} {g : JP} {st pt : Bool} {stT ptT rows columns paints apart po0 po1 old shut first second : Int32} {told touches has old_ got xb yt : Nat → Int32} (hD : DR L g st pt stT ptT rows columns paints apart po0 po1 old shut told touches has old_) {len : Nat} (hl : len ≤ 200) (h : ITc len xb yt) {a : Nat} (ha : a < len) {F : Nat} (hF : 202 ≤ F) (hk : ck yt a = 110 ∨ ck yt a = 119) :
    ∃ rx rm, fX4_item F (nI a) first second stT ptT (nI len) xb rows columns paints apart po0 po1 old shut = some rx ∧ fX10_isItem F (nI len) (nI a) yt told touches has old_ got = some rm ∧ IRes L a len rx rm := by
  have hya : yt a = nI (ck yt a) := by
    have := ck_eq (h a ha).2
    rw [fa_byte_small (by omega)] at this; exact this
  have gd : ¬ (nI a < 0 ∨ 200 ≤ (nI a).toNatClampNeg) := by
    rw [nI_clamp (by omega)]
    rintro (q | q)
    · exact nI_pos (by omega) q
    · omega
  have kx : fX4_item F (nI a) first second stT ptT (nI len) xb rows columns paints apart po0 po1 old shut = fX4_item_36 F (nI len) xb (nI (ck yt a)) (nI (a + 1)) first 0 stT ptT rows columns paints apart po0 po1 old shut := by
    unfold fX4_item
    rw [x_at hl h (by omega), if_pos ha, Option.bind_some]
    simp only [jl_let_eq]
    rw [show nI a + 1 = nI (a + 1) from nI_add a 1]
    rcases hk with q | q
    · rw [if_pos (by rw [q]; rfl)]
    · rw [if_neg (by rw [q]; decide), if_pos (by rw [q]; rfl)]
  obtain ⟨f, rfl⟩ : ∃ f, F = f + 1 + 1 := ⟨F - 2, by omega⟩
  have km : fX10_isItem (f + 1 + 1) (nI len) (nI a) yt told touches has old_ got = jl_loop10 (bX10_isItem_38 (f + 1 + 1) (nI len) yt) (f + 1 + 1) (nI (ck yt a)) (nI 1) (nI 1) (nI 0) (nI (a + 1)) told touches has old_ got := by
    unfold fX10_isItem
    rw [if_neg gd, nI_clamp (by omega)]
    simp only [jl_let_eq]
    have hn : fX10_numbers (nI (ck yt a)) = some 1 := by
      rcases hk with q | q <;> rw [q] <;> decide
    rw [hya, hn, Option.bind_some, if_neg (by decide), show nI a + 1 = nI (a + 1) from nI_add a 1]
    rfl
  rw [kx, km]
  unfold fX4_item_36
  obtain ⟨j, hx⟩ := number_x' hl h (sign := 59) (by decide) (by decide) (a := a + 1) (by omega) hF
  rw [show (59 : Int32) = nI 59 from rfl, hx, Option.bind_some, jl_loop10_s]
  simp only [jl_let_eq]
  have hstep := num_step hl h (l := nI (ck yt a)) (c := nI 1) (told := told) (touches := touches) (has := has) (old_ := old_) (got := got) (a := a + 1) (dx := 0) (i := 0) (show a + 1 + 0 ≤ len by omega) (by omega) hF (jl_loop10 (bX10_isItem_38 (f + 1 + 1) (nI len) yt) (f + 1))
  rw [Nat.add_zero] at hstep
  have hbody : bX10_isItem_38 (f + 1 + 1) (nI len) yt (jl_loop10 (bX10_isItem_38 (f + 1 + 1) (nI len) yt) (f + 1)) (nI (ck yt a)) (nI 1) (nI 1) (nI 0) (nI (a + 1)) told touches has old_ got = fX10_isItem_99 (f + 1 + 1) (nI len) yt (jl_loop10 (bX10_isItem_38 (f + 1 + 1) (nI len) yt) (f + 1)) (nI (ck yt a)) (nI 1) (nI 1) (nI 0) (nI 0) (nI (a + 1)) (nI (a + 1)) told touches has old_ got := by
    generalize jl_loop10 (bX10_isItem_38 (f + 1 + 1) (nI len) yt) (f + 1) = K
    unfold bX10_isItem_38
    rw [if_neg (show ¬ nI 1 ≤ nI 0 by decide), if_neg (show ¬ nI 1 = 0 by decide), if_pos (show nI 0 = 0 from rfl)]
    unfold fX10_isItem_78 fX10_isItem_83
    rw [if_pos (show nI 0 = 0 from rfl)]
    rfl
  rw [hbody, hstep]
  have hc := fc_le (ck yt) (len - (a + 1)) (a + 1)
  by_cases z : 1 ≤ fc (ck yt) (len - (a + 1)) (a + 1) ∧ fc (ck yt) (len - (a + 1)) (a + 1) ≤ 2
  · rw [if_pos z]
    have hv := fv_99 (ck yt) (len - (a + 1)) (a + 1) 0 0 (by omega) (by decide)
    have hlast : jl_loop10 (bX10_isItem_38 (f + 1 + 1) (nI len) yt) (f + 1) (nI (ck yt a)) (nI 1) (nI 1) (nI (0 + 1)) (nI (a + 1 + fc (ck yt) (len - (a + 1)) (a + 1))) told touches has old_ (upd got 0 (nI (fv (ck yt) (len - (a + 1)) (a + 1) 0))) = fX10_isItem_144 (f + 1 + 1) (nI len) yt (nI (ck yt a)) (nI 1) (nI (a + 1 + fc (ck yt) (len - (a + 1)) (a + 1))) told touches has old_ (upd got 0 (nI (fv (ck yt) (len - (a + 1)) (a + 1) 0))) := by
      rw [jl_loop10_s]
      generalize jl_loop10 (bX10_isItem_38 (f + 1 + 1) (nI len) yt) f = K
      unfold bX10_isItem_38
      rw [if_pos (show nI 1 ≤ nI (0 + 1) by decide)]
    rw [hlast, isItem_end hl h (by omega)]
    by_cases w : a + 1 + fc (ck yt) (len - (a + 1)) (a + 1) < len ∧ ck yt (a + 1 + fc (ck yt) (len - (a + 1)) (a + 1)) = 59
    · rw [if_pos ⟨z, w⟩, if_pos w]
      refine item_fin (v := 0) hv (by omega) (by omega) (by omega) hl ?_
      rcases hk with q | q
      · rw [q]
        exact takes_110 hD hv (upd_s rfl)
      · rw [q]
        exact takes_119 hD hv (upd_s rfl)
    · rw [if_neg (fun q => w q.2), if_neg w]
      obtain ⟨rx, b1, b2⟩ := item_bad (rows := rows) (columns := columns) (paints := paints) (apart := apart) (po0 := po0) (po1 := po1) (old := old) (shut := shut) (l := nI (ck yt a)) (stT := stT) (ptT := ptT) (at_ := j) (first := -1) (second := 0) (xb := xb) (lenI := nI len) (F := f + 1 + 1) (Or.inl (by decide))
      obtain ⟨rm, b3, b4⟩ := isItem_bad (l := nI (ck yt a)) (at_ := nI (a + 1 + fc (ck yt) (len - (a + 1)) (a + 1))) (lenI := nI len) (told := told) (touches := touches) (has := has) (old_ := old_) (got := upd got 0 (nI (fv (ck yt) (len - (a + 1)) (a + 1) 0))) (yt := yt) (F := f + 1 + 1)
      exact ⟨rx, rm, b1, b3, Or.inl ⟨b2, b4.mr hD.mr⟩⟩
  · rw [if_neg (fun q => z q.1), if_neg z]
    obtain ⟨rx, b1, b2⟩ := item_bad (rows := rows) (columns := columns) (paints := paints) (apart := apart) (po0 := po0) (po1 := po1) (old := old) (shut := shut) (l := nI (ck yt a)) (stT := stT) (ptT := ptT) (at_ := j) (first := -1) (second := 0) (xb := xb) (lenI := nI len) (F := f + 1 + 1) (Or.inl (by decide))
    obtain ⟨rm, b3, b4⟩ := isItem_stop (l := nI (ck yt a)) (lenI := nI len) (at_ := nI (a + 1 + fc (ck yt) (len - (a + 1)) (a + 1))) (told := told) (touches := touches) (has := has) (old_ := old_) (got := upd got 0 (-1)) (yt := yt) (F := f + 1 + 1) (n := f) (c := nI 1) (i := nI (0 + 1))
    exact ⟨rx, rm, b1, b3, Or.inl ⟨b2, b4.mr hD.mr⟩⟩
/-- letters that want two numbers -/
theorem item_two {L : JL} {g : JP} {st pt : Bool} {stT ptT rows columns paints apart po0 po1 old shut first second : Int32} {told touches has old_ got xb yt : Nat → Int32} (hD : DR L g st pt stT ptT rows columns paints apart po0 po1 old shut told touches has old_) {len : Nat} (hl : len ≤ 200) (h : ITc len xb yt) {a : Nat} (ha : a < len) {F : Nat} (hF : 203 ≤ F) (hk : ck yt a = 97 ∨ ck yt a = 104 ∨ ck yt a = 109 ∨ ck yt a = 114 ∨ ck yt a = 120) :
    ∃ rx rm, fX4_item F (nI a) first second stT ptT (nI len) xb rows columns paints apart po0 po1 old shut = some rx ∧ fX10_isItem F (nI len) (nI a) yt told touches has old_ got = some rm ∧ IRes L a len rx rm := by
  have hya : yt a = nI (ck yt a) := by
    have := ck_eq (h a ha).2
    rw [fa_byte_small (by omega)] at this; exact this
  have gd : ¬ (nI a < 0 ∨ 200 ≤ (nI a).toNatClampNeg) := by
    rw [nI_clamp (by omega)]
    rintro (q | q)
    · exact nI_pos (by omega) q
    · omega
  obtain ⟨j1, hx1⟩ := number_x' hl h (sign := 44) (by decide) (by decide) (a := a + 1) (by omega) (show 202 ≤ F by omega)
  obtain ⟨f, rfl⟩ : ∃ f, F = f + 1 + 1 + 1 := ⟨F - 3, by omega⟩
  have km : fX10_isItem (f + 1 + 1 + 1) (nI len) (nI a) yt told touches has old_ got = jl_loop10 (bX10_isItem_38 (f + 1 + 1 + 1) (nI len) yt) (f + 1 + 1 + 1) (nI (ck yt a)) (nI 2) (nI 1) (nI 0) (nI (a + 1)) told touches has old_ got := by
    unfold fX10_isItem
    rw [if_neg gd, nI_clamp (by omega)]
    simp only [jl_let_eq]
    have hn : fX10_numbers (nI (ck yt a)) = some 2 := by
      rcases hk with q | q | q | q | q <;> rw [q] <;> decide
    rw [hya, hn, Option.bind_some, if_neg (by decide), show nI a + 1 = nI (a + 1) from nI_add a 1]
    rfl
  have kx : fX4_item (f + 1 + 1 + 1) (nI a) first second stT ptT (nI len) xb rows columns paints apart po0 po1 old shut = (fX4_number (f + 1 + 1 + 1) (nI (a + 1)) (nI len) xb (nI 44)).bind fun r20 => if 0 ≤ r20.1 then (fX4_number (f + 1 + 1 + 1) r20.2 (nI len) xb (nI 59)).bind fun r24 => fX4_item_83 (f + 1 + 1 + 1) (nI len) xb (nI (ck yt a)) r24.2 r20.1 r24.1 stT ptT rows columns paints apart po0 po1 old shut else fX4_item_83 (f + 1 + 1 + 1) (nI len) xb (nI (ck yt a)) r20.2 r20.1 (-1) stT ptT rows columns paints apart po0 po1 old shut := by
    unfold fX4_item
    rw [x_at hl h (by omega), if_pos ha, Option.bind_some]
    simp only [jl_let_eq]
    rw [show nI a + 1 = nI (a + 1) from nI_add a 1]
    have n1 : ¬ nI (ck yt a) = 110 := by rcases hk with q | q | q | q | q <;> rw [q] <;> decide
    have n2 : ¬ nI (ck yt a) = 119 := by rcases hk with q | q | q | q | q <;> rw [q] <;> decide
    rw [if_neg n1, if_neg n2]
    rfl
  have bad : ∀ (at_ fi se at2 is_ cc ii : Int32) (gt : Nat → Int32) (n : Nat), (fi < 0 ∨ se < 0) → ∃ rx rm, fX4_item_83 (f + 1 + 1 + 1) (nI len) xb (nI (ck yt a)) at_ fi se stT ptT rows columns paints apart po0 po1 old shut = some rx ∧ (jl_loop10 (bX10_isItem_38 (f + 1 + 1 + 1) (nI len) yt) (n + 1) (nI (ck yt a)) cc (nI 0) ii at2 told touches has old_ gt) = some rm ∧ IRes L a len rx rm := by
    intro at_ fi se at2 is_ cc ii gt n hb
    obtain ⟨rx, b1, b2⟩ := item_bad (rows := rows) (columns := columns) (paints := paints) (apart := apart) (po0 := po0) (po1 := po1) (old := old) (shut := shut) (l := nI (ck yt a)) (stT := stT) (ptT := ptT) (at_ := at_) (first := fi) (second := se) (xb := xb) (lenI := nI len) (F := f + 1 + 1 + 1) hb
    obtain ⟨rm, b3, b4⟩ := isItem_stop (l := nI (ck yt a)) (lenI := nI len) (at_ := at2) (told := told) (touches := touches) (has := has) (old_ := old_) (got := gt) (yt := yt) (F := f + 1 + 1 + 1) (n := n) (c := cc) (i := ii)
    exact ⟨rx, rm, b1, b3, Or.inl ⟨b2, b4.mr hD.mr⟩⟩
  rw [kx, km, hx1, Option.bind_some, jl_loop10_s]
  have hstep := num_step hl h (l := nI (ck yt a)) (c := nI 2) (told := told) (touches := touches) (has := has) (old_ := old_) (got := got) (a := a + 1) (dx := 0) (i := 0) (show a + 1 + 0 ≤ len by omega) (by omega) (show 202 ≤ f + 1 + 1 + 1 by omega) (jl_loop10 (bX10_isItem_38 (f + 1 + 1 + 1) (nI len) yt) (f + 1 + 1))
  rw [Nat.add_zero] at hstep
  have hbody : bX10_isItem_38 (f + 1 + 1 + 1) (nI len) yt (jl_loop10 (bX10_isItem_38 (f + 1 + 1 + 1) (nI len) yt) (f + 1 + 1)) (nI (ck yt a)) (nI 2) (nI 1) (nI 0) (nI (a + 1)) told touches has old_ got = fX10_isItem_99 (f + 1 + 1 + 1) (nI len) yt (jl_loop10 (bX10_isItem_38 (f + 1 + 1 + 1) (nI len) yt) (f + 1 + 1)) (nI (ck yt a)) (nI 2) (nI 1) (nI 0) (nI 0) (nI (a + 1)) (nI (a + 1)) told touches has old_ got := by
    generalize jl_loop10 (bX10_isItem_38 (f + 1 + 1 + 1) (nI len) yt) (f + 1 + 1) = K
    unfold bX10_isItem_38
    rw [if_neg (show ¬ nI 2 ≤ nI 0 by decide), if_neg (show ¬ nI 1 = 0 by decide), if_pos (show nI 0 = 0 from rfl)]
    unfold fX10_isItem_78 fX10_isItem_83
    rw [if_pos (show nI 0 = 0 from rfl)]
    rfl
  rw [hbody, hstep]
  have hc := fc_le (ck yt) (len - (a + 1)) (a + 1)
  generalize hc1 : fc (ck yt) (len - (a + 1)) (a + 1) = c1 at hc ⊢
  by_cases z : 1 ≤ c1 ∧ c1 ≤ 2
  · have hv := fv_99 (ck yt) (len - (a + 1)) (a + 1) 0 0 (by omega) (by decide)
    generalize fv (ck yt) (len - (a + 1)) (a + 1) 0 = v1 at hv ⊢
    rw [if_pos z]
    by_cases w : a + 1 + c1 < len ∧ ck yt (a + 1 + c1) = 44
    · rw [if_pos (show (1 ≤ c1 ∧ c1 ≤ 2) ∧ a + 1 + c1 < len ∧ ck yt (a + 1 + c1) = 44 from ⟨z, w⟩)]
      dsimp only
      rw [if_pos (show (0 : Int32) ≤ nI v1 by rw [(show (0 : Int32) = nI 0 from rfl), nI_leI (by omega) (by omega)]; omega)]
      obtain ⟨j2, hx2⟩ := number_x' hl h (sign := 59) (by decide) (by decide) (a := a + 1 + c1 + 1) (by omega) (show 202 ≤ f + 1 + 1 + 1 by omega)
      have hstep2 := num_step hl h (l := nI (ck yt a)) (c := nI 2) (told := told) (touches := touches) (has := has) (old_ := old_) (got := upd got 0 (nI v1)) (a := a + 1 + c1) (dx := 1) (i := 1) (show a + 1 + c1 + 1 ≤ len by omega) (by omega) (show 202 ≤ f + 1 + 1 + 1 by omega) (jl_loop10 (bX10_isItem_38 (f + 1 + 1 + 1) (nI len) yt) (f + 1))
      have hbody2 : jl_loop10 (bX10_isItem_38 (f + 1 + 1 + 1) (nI len) yt) (f + 1 + 1) (nI (ck yt a)) (nI 2) (nI 1) (nI (0 + 1)) (nI (a + 1 + c1)) told touches has old_ (upd got 0 (nI v1)) = fX10_isItem_99 (f + 1 + 1 + 1) (nI len) yt (jl_loop10 (bX10_isItem_38 (f + 1 + 1 + 1) (nI len) yt) (f + 1)) (nI (ck yt a)) (nI 2) (nI 1) (nI 1) (nI 1) (nI (a + 1 + c1)) (nI (a + 1 + c1)) told touches has old_ (upd got 0 (nI v1)) := by
        rw [jl_loop10_s]
        generalize jl_loop10 (bX10_isItem_38 (f + 1 + 1 + 1) (nI len) yt) (f + 1) = K
        unfold bX10_isItem_38
        have e44 : (yt (a + 1 + c1) = 44) := by
          rw [ck_eq (h _ w.1).2, w.2]; decide
        rw [if_neg (show ¬ nI 2 ≤ nI (0 + 1) by decide), if_neg (show ¬ nI 1 = 0 by decide), if_neg (show ¬ nI (0 + 1) = 0 by decide), if_neg (by rw [nI_leI (by omega) (by omega)]; omega), if_neg (by
          rw [nI_clamp (by omega)]
          rintro (q | q)
          · exact nI_pos (by omega) q
          · omega), nI_clamp (by omega), if_pos e44]
        unfold fX10_isItem_78 fX10_isItem_83
        rw [if_neg (show ¬ nI (0 + 1) = 0 by decide)]
        rfl
      rw [hx2, Option.bind_some, hbody2, hstep2]
      have hcc := fc_le (ck yt) (len - (a + 1 + c1 + 1)) (a + 1 + c1 + 1)
      generalize hc2 : fc (ck yt) (len - (a + 1 + c1 + 1)) (a + 1 + c1 + 1) = c2 at hcc ⊢
      by_cases z2 : 1 ≤ c2 ∧ c2 ≤ 2
      · have hv2 := fv_99 (ck yt) (len - (a + 1 + c1 + 1)) (a + 1 + c1 + 1) 0 0 (by omega) (by decide)
        generalize fv (ck yt) (len - (a + 1 + c1 + 1)) (a + 1 + c1 + 1) 0 = v2 at hv2 ⊢
        rw [if_pos z2]
        have hlast : jl_loop10 (bX10_isItem_38 (f + 1 + 1 + 1) (nI len) yt) (f + 1) (nI (ck yt a)) (nI 2) (nI 1) (nI (1 + 1)) (nI (a + 1 + c1 + 1 + c2)) told touches has old_ (upd (upd got 0 (nI v1)) 1 (nI v2)) = fX10_isItem_144 (f + 1 + 1 + 1) (nI len) yt (nI (ck yt a)) (nI 1) (nI (a + 1 + c1 + 1 + c2)) told touches has old_ (upd (upd got 0 (nI v1)) 1 (nI v2)) := by
          rw [jl_loop10_s]
          generalize jl_loop10 (bX10_isItem_38 (f + 1 + 1 + 1) (nI len) yt) f = K
          unfold bX10_isItem_38
          rw [if_pos (show nI 2 ≤ nI (1 + 1) by decide)]
        rw [hlast, isItem_end hl h (by omega)]
        by_cases w2 : a + 1 + c1 + 1 + c2 < len ∧ ck yt (a + 1 + c1 + 1 + c2) = 59
        · rw [if_pos (show (1 ≤ c2 ∧ c2 ≤ 2) ∧ a + 1 + c1 + 1 + c2 < len ∧ ck yt (a + 1 + c1 + 1 + c2) = 59 from ⟨z2, w2⟩), if_pos w2]
          dsimp only
          have g0 : upd (upd got 0 (nI v1)) 1 (nI v2) 0 = nI v1 := by rw [upd_n (by omega), upd_s rfl]
          have g1 : upd (upd got 0 (nI v1)) 1 (nI v2) 1 = nI v2 := upd_s rfl
          refine item_fin hv hv2 (by omega) (by omega) hl ?_
          rcases hk with q | q | q | q | q <;> rw [q]
          · exact takes_97 hD hv hv2 g0 g1
          · exact takes_104 hD hv hv2 g0 g1
          · exact takes_pair hD hv hv2 g0 g1 (Or.inl rfl)
          · exact takes_114 hD hv hv2 g0 g1
          · exact takes_pair hD hv hv2 g0 g1 (Or.inr rfl)
        · rw [if_neg (show ¬ ((1 ≤ c2 ∧ c2 ≤ 2) ∧ a + 1 + c1 + 1 + c2 < len ∧ ck yt (a + 1 + c1 + 1 + c2) = 59) from fun q => w2 q.2), if_neg w2]
          dsimp only
          obtain ⟨rx, b1, b2⟩ := item_bad (rows := rows) (columns := columns) (paints := paints) (apart := apart) (po0 := po0) (po1 := po1) (old := old) (shut := shut) (l := nI (ck yt a)) (stT := stT) (ptT := ptT) (at_ := j2) (first := nI v1) (second := -1) (xb := xb) (lenI := nI len) (F := f + 1 + 1 + 1) (Or.inr (by decide))
          obtain ⟨rm, b3, b4⟩ := isItem_bad (l := nI (ck yt a)) (at_ := nI (a + 1 + c1 + 1 + c2)) (lenI := nI len) (told := told) (touches := touches) (has := has) (old_ := old_) (got := upd (upd got 0 (nI v1)) 1 (nI v2)) (yt := yt) (F := f + 1 + 1 + 1)
          exact ⟨rx, rm, b1, b3, Or.inl ⟨b2, b4.mr hD.mr⟩⟩
      · rw [if_neg (show ¬ ((1 ≤ c2 ∧ c2 ≤ 2) ∧ a + 1 + c1 + 1 + c2 < len ∧ ck yt (a + 1 + c1 + 1 + c2) = 59) from fun q => z2 q.1), if_neg z2]
        dsimp only
        exact bad _ _ _ _ 0 _ _ _ _ (Or.inr (by decide))
    · rw [if_neg (show ¬ ((1 ≤ c1 ∧ c1 ≤ 2) ∧ a + 1 + c1 < len ∧ ck yt (a + 1 + c1) = 44) from fun q => w q.2)]
      dsimp only
      rw [if_neg (show ¬ (0 : Int32) ≤ -1 by decide)]
      have hbody2 : ∃ a2 gt, jl_loop10 (bX10_isItem_38 (f + 1 + 1 + 1) (nI len) yt) (f + 1 + 1) (nI (ck yt a)) (nI 2) (nI 1) (nI (0 + 1)) (nI (a + 1 + c1)) told touches has old_ (upd got 0 (nI v1)) = jl_loop10 (bX10_isItem_38 (f + 1 + 1 + 1) (nI len) yt) (f + 1) (nI (ck yt a)) (nI 2) (nI 0) (nI 2) a2 told touches has old_ gt := by
        rw [jl_loop10_s]
        generalize jl_loop10 (bX10_isItem_38 (f + 1 + 1 + 1) (nI len) yt) (f + 1) = K
        have hb82 : ∃ a2 gt, fX10_isItem_82 (f + 1 + 1 + 1) (nI len) yt K (nI (ck yt a)) (nI 2) (nI 1) (nI (a + 1 + c1)) told touches has old_ (upd got 0 (nI v1)) = K (nI (ck yt a)) (nI 2) (nI 0) (nI 2) a2 told touches has old_ gt := by
          unfold fX10_isItem_82 fX10_isItem_83
          rw [if_neg (show ¬ nI 1 = 0 by decide)]
          unfold fX10_isItem_99
          simp only [jl_let_eq, ↓reduceIte]
          unfold fX10_isItem_121 fX10_isItem_137
          rw [nI_clamp (by omega), if_neg (by
            rintro (q | q)
            · exact nI_pos (by omega) q
            · omega)]
          simp only [jl_let_eq]
          rw [if_neg (by
            rintro (q | q)
            · exact nI_pos (by omega) q
            · omega), upd_s rfl, if_pos (show (-1 : Int32) < 0 by decide)]
          exact ⟨_, _, rfl⟩
        unfold bX10_isItem_38
        rw [if_neg (show ¬ nI 2 ≤ nI (0 + 1) by decide), if_neg (show ¬ nI 1 = 0 by decide), if_neg (show ¬ nI (0 + 1) = 0 by decide)]
        by_cases e : a + 1 + c1 < len
        · have e44 : ¬ (yt (a + 1 + c1) = 44) := by
            rw [ck_eq (h _ e).2]
            intro q
            have q2 : (nI (ck yt (a + 1 + c1))).toInt8.toInt32 = nI 44 := q
            rw [by_eq (ck_lt _ _) (by omega)] at q2
            exact w ⟨e, q2⟩
          rw [if_neg (by rw [nI_leI (by omega) (by omega)]; omega), if_neg (by
            rw [nI_clamp (by omega)]
            rintro (q | q)
            · exact nI_pos (by omega) q
            · omega), nI_clamp (by omega), if_neg e44]
          exact hb82
        · rw [if_pos (by rw [nI_leI (by omega) (by omega)]; omega)]
          exact hb82
      obtain ⟨a2, gt, hb⟩ := hbody2
      rw [hb]
      exact bad _ _ _ _ 0 _ _ _ _ (Or.inr (by decide))
  · rw [if_neg (show ¬ ((1 ≤ c1 ∧ c1 ≤ 2) ∧ a + 1 + c1 < len ∧ ck yt (a + 1 + c1) = 44) from fun q => z q.1), if_neg z]
    dsimp only
    rw [if_neg (show ¬ (0 : Int32) ≤ -1 by decide)]
    exact bad _ _ _ _ 0 _ _ _ _ (Or.inr (by decide))
