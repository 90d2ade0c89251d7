/-! a plan's text read whole -/
theorem item_none {L : JL} {stT ptT rows columns paints apart po0 po1 old shut first second : Int32} {told touches has old_ got xb yt : Nat → Int32} {len : Nat} (hL : MR L.1 L.2.1 told touches has old_ L.2.2) (hl : len ≤ 200) (h : ITc len xb yt) {a : Nat} (ha : a < len) {F : Nat} (hF : 203 ≤ F) (k1 : ¬ (ck yt a = 110 ∨ ck yt a = 119)) (k2 : ¬ (ck yt a = 97 ∨ ck yt a = 104 ∨ ck yt a = 109 ∨ ck yt a = 114 ∨ ck yt a = 120)) :
    ∃ rx rm, fX4_item F (nI a) first second stT ptT (nI len) xb rows columns paints apart po0 po1 old shut = some rx ∧ fX10_isItem F (nI len) (nI a) yt told touches has old_ got = some rm ∧ IRes L a len rx rm := by
  have hk := ck_lt yt a
  have gd : ¬ (nI a < 0 ∨ 200 ≤ (nI a).toNatClampNeg) := by
    rw [nI_clamp (by omega)]
    rintro (q | q)
    · exact nI_pos (by omega) q
    · omega
  have ne : ∀ c, c < 256 → ck yt a ≠ c → ¬ nI (ck yt a) = nI c := by
    intro c hc q
    rw [nI_eq (by omega) (by omega)]; exact q
  have b83 : ∀ at_ fi se, ∃ rx, fX4_item_83 F (nI len) xb (nI (ck yt a)) at_ fi se stT ptT rows columns paints apart po0 po1 old shut = some rx ∧ rx.1 = 0 := by
    intro at_ fi se
    by_cases hb : fi < 0 ∨ se < 0
    · exact item_bad hb
    · unfold fX4_item_83 fX4_takes
      rw [if_neg (fun q => hb (Or.inl q)), if_neg (fun q => hb (Or.inr q)), if_neg (show ¬ nI (ck yt a) = 97 from ne 97 (by omega) (by omega)), if_neg (show ¬ nI (ck yt a) = 104 from ne 104 (by omega) (by omega)), if_neg (show ¬ nI (ck yt a) = 109 from ne 109 (by omega) (by omega)), if_neg (show ¬ nI (ck yt a) = 110 from ne 110 (by omega) (by omega)), if_neg (show ¬ nI (ck yt a) = 114 from ne 114 (by omega) (by omega)), if_neg (show ¬ nI (ck yt a) = 119 from ne 119 (by omega) (by omega)), if_neg (show ¬ nI (ck yt a) = 120 from ne 120 (by omega) (by omega)), Option.bind_some]
      exact ⟨_, rfl, Eq.refl (0 : Int32)⟩
  have hX : ∃ rx, fX4_item F (nI a) first second stT ptT (nI len) xb rows columns paints apart po0 po1 old shut = some rx ∧ rx.1 = 0 := by
    unfold fX4_item
    rw [x_at hl h (by omega), if_pos ha, Option.bind_some]
    simp only [jl_let_eq]
    rw [if_neg (show ¬ nI (ck yt a) = 110 from ne 110 (by omega) (by omega)), if_neg (show ¬ nI (ck yt a) = 119 from ne 119 (by omega) (by omega)), show nI a + 1 = nI (a + 1) from nI_add a 1]
    obtain ⟨j1, hx1⟩ := number_x' hl h (sign := 44) (by decide) (by decide) (a := a + 1) (by omega) (show 202 ≤ F by omega)
    rw [show (44 : Int32) = nI 44 from rfl, hx1, Option.bind_some]
    unfold fX4_item_80
    by_cases w : (1 ≤ fc (ck yt) (len - (a + 1)) (a + 1) ∧ fc (ck yt) (len - (a + 1)) (a + 1) ≤ 2) ∧ a + 1 + fc (ck yt) (len - (a + 1)) (a + 1) < len ∧ ck yt (a + 1 + fc (ck yt) (len - (a + 1)) (a + 1)) = 44
    · rw [if_pos w]
      dsimp only
      obtain ⟨j2, hx2⟩ := number_x' hl h (sign := 59) (by decide) (by decide) (a := a + 1 + fc (ck yt) (len - (a + 1)) (a + 1) + 1) (by omega) (show 202 ≤ F by omega)
      rw [show (59 : Int32) = nI 59 from rfl, hx2, Option.bind_some]
      by_cases z : (0 : Int32) ≤ nI (fv (ck yt) (len - (a + 1)) (a + 1) 0)
      · rw [if_pos z]; exact b83 _ _ _
      · rw [if_neg z]; exact b83 _ _ _
    · rw [if_neg w]
      dsimp only
      rw [if_neg (show ¬ (0 : Int32) ≤ -1 by decide)]
      exact b83 _ _ _
  have hM : ∃ rm, fX10_isItem F (nI len) (nI a) yt told touches has old_ got = some rm ∧ KP rm told touches has old_ := by
    obtain ⟨f, rfl⟩ : ∃ f, F = f + 1 := ⟨F - 1, by omega⟩
    unfold fX10_isItem
    have e : ∀ c, c < 128 → ck yt a ≠ c → ¬ yt a = nI c := by
      intro c hc q
      rw [ck_eq (h a ha).2, by_eq hk hc]; exact q
    have hn : fX10_numbers (yt a) = some 0 := by
      unfold fX10_numbers
      rw [if_neg (show ¬ yt a = 114 from e 114 (by omega) (by omega)), if_neg (show ¬ yt a = 120 from e 120 (by omega) (by omega)), if_neg (show ¬ yt a = 109 from e 109 (by omega) (by omega)), if_neg (show ¬ yt a = 104 from e 104 (by omega) (by omega)), if_neg (show ¬ yt a = 97 from e 97 (by omega) (by omega)), if_neg (show ¬ yt a = 110 from e 110 (by omega) (by omega)), if_neg (show ¬ yt a = 119 from e 119 (by omega) (by omega))]
    rw [if_neg gd, nI_clamp (by omega)]
    simp only [jl_let_eq]
    rw [hn, Option.bind_some, if_pos (show (0 : Int32) ≤ 0 by decide)]
    unfold fX10_isItem_34 lX10_isItem_38
    exact isItem_stop
  obtain ⟨rx, b1, b2⟩ := hX
  obtain ⟨rm, b3, b4⟩ := hM
  exact ⟨rx, rm, b1, b3, Or.inl ⟨b2, b4.mr hL⟩⟩
theorem item_ok {L : JL} {g : JP} {st pt : Bool} {stT ptT rows columns paints apart po0 po1 old shut first second : Int32} {told touches has old_ got xb yt : Nat → Int32} (hD : DR L g st pt stT ptT rows columns paints apart po0 po1 old shut told touches has old_) {len : Nat} (hl : len ≤ 200) (h : ITc len xb yt) {a : Nat} (ha : a < len) {F : Nat} (hF : 203 ≤ F) :
    ∃ rx rm, fX4_item F (nI a) first second stT ptT (nI len) xb rows columns paints apart po0 po1 old shut = some rx ∧ fX10_isItem F (nI len) (nI a) yt told touches has old_ got = some rm ∧ IRes L a len rx rm := by
  by_cases k1 : ck yt a = 110 ∨ ck yt a = 119
  · exact item_one hD hl h ha (by omega) k1
  · by_cases k2 : ck yt a = 97 ∨ ck yt a = 104 ∨ ck yt a = 109 ∨ ck yt a = 114 ∨ ck yt a = 120
    · exact item_two hD hl h ha hF k2
    · exact item_none hD.mr hl h ha hF k1 k2
def RRes (L : JL) (len : Nat) (rx : Int32 × Int32 × Int32 × Int32 × Int32 × Int32 × Int32 × Int32 × Int32 × Int32 × Int32 × Int32 × Int32 × Int32) (rm : Int32 × Int32 × (Nat → Int32) × (Nat → Int32) × (Nat → Int32) × (Nat → Int32) × (Nat → Int32)) : Prop :=
  rx.1 = rm.1 ∧ ((rx.1 = -4 ∧ ∃ (g : JP) (st pt : Bool), DR L g st pt rx.2.2.2.2.1 rx.2.2.2.2.2.1 rx.2.2.2.2.2.2.1 rx.2.2.2.2.2.2.2.1 rx.2.2.2.2.2.2.2.2.1 rx.2.2.2.2.2.2.2.2.2.1 rx.2.2.2.2.2.2.2.2.2.2.1 rx.2.2.2.2.2.2.2.2.2.2.2.1 rx.2.2.2.2.2.2.2.2.2.2.2.2.1 rx.2.2.2.2.2.2.2.2.2.2.2.2.2 rm.2.2.1 rm.2.2.2.1 rm.2.2.2.2.1 rm.2.2.2.2.2.1) ∨ ((∃ k, k < len ∧ rx.1 = nI k) ∧ MR L.1 L.2.1 rm.2.2.1 rm.2.2.2.1 rm.2.2.2.2.1 rm.2.2.2.2.2.1 L.2.2))
theorem read_loop {L : JL} {len : Nat} {xb yt : Nat → Int32} (hl : len ≤ 200) (h : ITc len xb yt) {F : Nat} (hF : 203 ≤ F) :
    ∀ m a cnt (g : JP) (st pt : Bool) (first second stT ptT rows columns paints apart po0 po1 old shut : Int32) (told touches has old_ got : Nat → Int32), a + m = len → cnt ≤ a → DR L g st pt stT ptT rows columns paints apart po0 po1 old shut told touches has old_ → ∀ f, m < f →
    ∃ rx rm, jl_loop14 (bX4_faultIn_21 F (nI len) xb) f (nI cnt) (nI a) first second stT ptT rows columns paints apart po0 po1 old shut = some rx ∧ jl_loop6 (bX10_fault_9 F (nI len) yt) f (nI a) told touches has old_ got = some rm ∧ RRes L len rx rm := by
  intro m
  induction m using Nat.strongRecOn with
  | ind m ih =>
    intro a cnt g st pt first second stT ptT rows columns paints apart po0 po1 old shut told touches has old_ got ham hcnt hD f hf
    obtain ⟨f', rfl⟩ : ∃ f', f = f' + 1 := ⟨f - 1, by omega⟩
    rw [jl_loop14_s, jl_loop6_s]
    have hrec := fun m' hm' a' cnt' g st pt first second stT ptT rows columns paints apart po0 po1 old shut told touches has old_ got h1 h2 h3 => ih m' hm' a' cnt' g st pt first second stT ptT rows columns paints apart po0 po1 old shut told touches has old_ got h1 h2 h3 f' (by omega)
    generalize jl_loop14 (bX4_faultIn_21 F (nI len) xb) f' = K at hrec ⊢
    generalize jl_loop6 (bX10_fault_9 F (nI len) yt) f' = L at hrec ⊢
    unfold bX4_faultIn_21 bX10_fault_9
    by_cases e : a < len
    · rw [if_neg (by rw [(show (200 : Int32) = nI 200 from rfl), nI_leI (by omega) (by omega)]; omega), if_neg (by rw [nI_leI (by omega) (by omega)]; omega), if_neg (by rw [nI_leI (by omega) (by omega)]; omega)]
      obtain ⟨⟨x0, x1, x2, x3, x4, x5, x6, x7, x8, x9, x10, x11, x12, x13⟩, ⟨y0, y1, y2, y3, y4, y5, y6⟩, h1, h2, h3⟩ := item_ok (first := first) (second := second) (got := got) hD hl h e hF
      rw [h1, h2, Option.bind_some, Option.bind_some]
      rcases h3 with ⟨e1, e2, hM⟩ | ⟨e1, e2, b, b1, b2, b3, b4, g', st', pt', hD'⟩
      · rw [if_pos e1, if_pos e2]
        exact ⟨_, _, rfl, rfl, Eq.refl (nI a), Or.inr ⟨⟨a, e, Eq.refl (nI a)⟩, hM⟩⟩
      · replace e1 : x0 = 1 := e1
        replace e2 : y0 = 1 := e2
        replace b3 : x1 = nI b := b3
        replace b4 : y1 = nI b := b4
        dsimp only at hD'
        dsimp only
        rw [if_neg (by rw [e1]; decide), if_neg (by rw [e2]; decide)]
        simp only [jl_let_eq]
        rw [b3, b4, ni_of1, nI_add]
        exact hrec (len - b) (by omega) b (cnt + 1) g' st' pt' _ _ _ _ _ _ _ _ _ _ _ _ _ _ _ _ _ (by omega) (by omega) hD'
    · have hX : (if (200 : Int32) ≤ nI cnt then some ((-4 : Int32), nI a, first, second, stT, ptT, rows, columns, paints, apart, po0, po1, old, shut) else some (-4, nI a, first, second, stT, ptT, rows, columns, paints, apart, po0, po1, old, shut)) = some (-4, nI a, first, second, stT, ptT, rows, columns, paints, apart, po0, po1, old, shut) := ite_self _
      have hle : nI len ≤ nI a := by rw [nI_leI (by omega) (by omega)]; omega
      rw [if_pos hle, if_pos hle, hX]
      exact ⟨_, _, rfl, rfl, Eq.refl (-4 : Int32), Or.inl ⟨Eq.refl (-4 : Int32), g, st, pt, hD⟩⟩
