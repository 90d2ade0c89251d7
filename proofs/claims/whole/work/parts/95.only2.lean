/-! stones that only one can have painted: both answers agree -/
theorem cX_R {X : Nat → Bool} {al m s : Nat} (hal : al < 2 ^ 9) (hm : m < 2 ^ 9) (hsub : adn m al = 0) (hs : s < 9) (hb : (adn al m).testBit s = true) : cX X (adn al (m ||| 2 ^ s)) + (if X s = true then 1 else 0) + cX X m = cX X al := by
  rw [or_rem hal, cX_rem (adn_lt hal) hs hb]
  unfold cX
  rw [← fb_ct_or (fun i _ q => by
    rw [adn_tb (show al < 2 ^ 32 by omega)] at q
    simp only [Bool.and_eq_true, Bool.not_eq_true'] at q
    rw [q.1.1.2] at q
    exact absurd q.2.1 (by simp))]
  refine fb_ct_cong (fun i _ => ?_)
  rw [adn_tb (by omega)]
  cases hi : m.testBit i
  · simp
  · rw [sub_tb hm hsub hi]; simp
theorem cX_one {X : Nat → Bool} {u : Nat} (hu : u < 9) : cX X (2 ^ u) = if X u = true then 1 else 0 := by
  have hp : 2 ^ u < 2 ^ 9 := Nat.pow_lt_pow_right (by omega) hu
  have h := cX_rem (X := X) hp hu (by rw [Nat.testBit_two_pow]; simp)
  have e : adn (2 ^ u) (2 ^ u) = 0 := sub_of hp (fun s hs => hs)
  rw [e, cX_0, Nat.zero_add] at h
  exact h.symm
theorem ct_one {u : Nat} (hu : u < 9) : fb_ct (2 ^ u).testBit 9 = 1 := by
  have h := cX_one (X := fun _ => true) hu
  unfold cX at h
  rw [if_pos rfl] at h
  rw [← h]
  exact fb_ct_cong (fun s _ => (Bool.and_true _).symm)
theorem only_eq {g : JP} (hg : GOK g) {w : JW} (hW : WOK g w) {i : Nat} (hi : i ≤ 1) (h0 : ordN g w ≠ 0) : onlyS g w i = onlyX g w i := by
  have hal := frS_lt w
  have hN := fr_ct hg hW
  have hl9 := hW.len9 hg
  have hK : 0 < ordN g w := Nat.pos_of_ne_zero h0
  unfold ordN Kc at hK
  rw [KK_pos] at hK
  obtain ⟨hz, hA1, hA2⟩ := hK
  have htot := cX_tot (bA g w 0) (bA g w 1) (frS w)
  rw [hN, hz, Nat.add_zero] at htot
  have hzz : ∀ s, s < 9 → (frS w).testBit s = true → yz (bA g w 0) (bA g w 1) s = false := by
    intro s hs hb
    unfold cX at hz
    rw [fb_ct_zero] at hz
    have := hz s hs
    rw [hb, Bool.true_and] at this; exact this
  have hzm : ∀ m, m < 2 ^ 9 → adn m (frS w) = 0 → cX (yz (bA g w 0) (bA g w 1)) m = 0 := by
    intro m hm hsub
    unfold cX
    rw [fb_ct_zero]
    intro s hs
    cases hb : m.testBit s
    · rfl
    · rw [hzz s hs (sub_tb hm hsub hb)]; rfl
  have hsubR : ∀ x, adn (adn (frS w) x) (frS w) = 0 := fun x => sub_of (adn_lt hal) (fun s hs => by
    rw [adn_tb (by omega), Bool.and_eq_true] at hs; exact hs.1)
  unfold onlyS onlyX
  refine nb_cong (fun s hs => ?_)
  cases hb : (frS w).testBit s with
  | false => rw [Bool.false_and, Bool.false_and]
  | true =>
    rw [Bool.true_and, Bool.true_and]
    have hzs := hzz s hs hb
    -- what a set shows
    have bad_iff : ∀ m, m < 512 → (bad g w i m s = true ↔ adn m (frS w) = 0 ∧ m.testBit s = false ∧ fb_ct m.testBit 9 % 2 ≠ i ∧ bA g w (fb_ct m.testBit 9 % 2) s = true ∧ 0 < KF g w m ∧ 0 < KB g w (m ||| 2 ^ s)) := by
      intro m hm
      unfold bad
      simp only [Bool.and_eq_true, decide_eq_true_eq, Bool.not_eq_true', decide_eq_false_iff_not, adn_tb (show frS w < 2 ^ 32 by omega), hb, true_and]
    have KF_iff : ∀ m, m < 2 ^ 9 → adn m (frS w) = 0 → (0 < KF g w m ↔ cX (y0 (bA g w 0) (bA g w 1)) m ≤ (fb_ct m.testBit 9 + 1) / 2 ∧ (fb_ct m.testBit 9 + 1) / 2 - cX (y0 (bA g w 0) (bA g w 1)) m ≤ cX (yf (bA g w 0) (bA g w 1)) m) := by
      intro m hm hsub
      unfold KF Kc
      rw [KK_pos]
      simp only [hzm m hm hsub, true_and]
    have KB_iff : ∀ m, m < 2 ^ 9 → adn m (frS w) = 0 → m.testBit s = false → (0 < KB g w (m ||| 2 ^ s) ↔ cX (y0 (bA g w 0) (bA g w 1)) (adn (frS w) (m ||| 2 ^ s)) ≤ (w.2.1.length + 1) / 2 - (fb_ct m.testBit 9 + 1 + 1) / 2 ∧ (w.2.1.length + 1) / 2 - (fb_ct m.testBit 9 + 1 + 1) / 2 - cX (y0 (bA g w 0) (bA g w 1)) (adn (frS w) (m ||| 2 ^ s)) ≤ cX (yf (bA g w 0) (bA g w 1)) (adn (frS w) (m ||| 2 ^ s))) := by
      intro m hm hsub hbm
      unfold KB Kc
      rw [KK_pos, or_ct hm hs hbm]
      simp only [hzm _ (adn_lt hal) (hsubR _), true_and]
    have hR : ∀ m, m < 2 ^ 9 → adn m (frS w) = 0 → m.testBit s = false → ∀ X : Nat → Bool, cX X (adn (frS w) (m ||| 2 ^ s)) + (if X s = true then 1 else 0) + cX X m = cX X (frS w) := by
      intro m hm hsub hbm X
      exact cX_R hal hm hsub hs (by rw [adn_tb (by omega), hb, hbm]; rfl)
    have hlen : ∀ m, m < 2 ^ 9 → adn m (frS w) = 0 → m.testBit s = false → fb_ct m.testBit 9 + 1 ≤ w.2.1.length := by
      intro m hm hsub hbm
      have h1 := sub_ct hm hal hsub
      have h2 := rem_ct (m := adn (frS w) m) (adn_lt hal) hs (by rw [adn_tb (by omega), hb, hbm]; rfl)
      omega
    -- no set shows it
    have none : (∀ m, m < 512 → bad g w i m s = false) → jall (fun m => !bad g w i m s) 512 = true := fun h => by
      rw [jall_iff]; intro m hm
      rw [h m hm]; rfl
    have some_ : ∀ m, m < 512 → bad g w i m s = true → jall (fun m => !bad g w i m s) 512 = false := fun m hm h => by
      rw [← Bool.not_eq_true, jall_iff]
      intro q
      have := q m hm
      rw [h] at this; cases this
    have e0 : ∀ m, cX (fun s => bA g w 0 s && !bA g w 1 s) m = cX (y0 (bA g w 0) (bA g w 1)) m := fun _ => rfl
    have ef : ∀ m, cX (fun s => bA g w 0 s && bA g w 1 s) m = cX (yf (bA g w 0) (bA g w 1)) m := fun _ => rfl
    have e1 : ∀ m, cX (fun s => bA g w 1 s && !bA g w 0 s) m = cX (y1 (bA g w 0) (bA g w 1)) m := fun m => fb_ct_cong (fun s _ => by
      show (m.testBit s && (bA g w 1 s && !bA g w 0 s)) = (m.testBit s && (!bA g w 0 s && bA g w 1 s))
      rw [Bool.and_comm (bA g w 1 s)])
    rw [ef]
    have hy0s : y0 (bA g w 0) (bA g w 1) s = (bA g w 0 s && !bA g w 1 s) := rfl
    have hyfs : yf (bA g w 0) (bA g w 1) s = (bA g w 0 s && bA g w 1 s) := rfl
    rcases (show i = 0 ∨ i = 1 by omega) with rfl | rfl
    · rw [if_pos rfl]
      show _ = ((bA g w 0 s && !bA g w 1 s) || (decide ((w.2.1.length + 1) / 2 = cX (fun s => bA g w 0 s && !bA g w 1 s) (frS w) + cX (yf (bA g w 0) (bA g w 1)) (frS w)) && (bA g w 0 s && bA g w 1 s)))
      rw [e0]
      cases ha1 : bA g w 1 s with
      | false =>
        -- painter 0 alone
        have ha0 : bA g w 0 s = true := by
          unfold yz at hzs
          rw [ha1] at hzs; simpa using hzs
        rw [ha0, none (fun m hm => by
          cases hbd : bad g w 0 m s with
          | false => rfl
          | true =>
            obtain ⟨-, -, c, d, -⟩ := (bad_iff m hm).mp hbd
            have : fb_ct m.testBit 9 % 2 = 1 := by omega
            rw [this, ha1] at d; cases d)]
        rfl
      | true =>
        by_cases hcase : bA g w 0 s = true ∧ (w.2.1.length + 1) / 2 = cX (y0 (bA g w 0) (bA g w 1)) (frS w) + cX (yf (bA g w 0) (bA g w 1)) (frS w)
        · rw [hcase.1, decide_eq_true hcase.2, none (fun m hm => by
            cases hbd : bad g w 0 m s with
            | false => rfl
            | true =>
              exfalso
              obtain ⟨a, b, c, d, e, f⟩ := (bad_iff m hm).mp hbd
              have f1 := (KF_iff m hm a).mp e
              have f2 := (KB_iff m hm a b).mp f
              have r0 := hR m hm a b (y0 (bA g w 0) (bA g w 1))
              have rf := hR m hm a b (yf (bA g w 0) (bA g w 1))
              have hl := hlen m hm a b
              rw [hy0s, hcase.1, ha1] at r0
              rw [hyfs, hcase.1, ha1] at rf
              simp only [Bool.not_true, Bool.and_false, Bool.false_eq_true, if_false, Bool.and_self, if_true] at r0 rf
              have := hcase.2
              omega)]
          rfl
        · have hrhs : (bA g w 0 s && !true || (decide ((w.2.1.length + 1) / 2 = cX (y0 (bA g w 0) (bA g w 1)) (frS w) + cX (yf (bA g w 0) (bA g w 1)) (frS w)) && (bA g w 0 s && true))) = false := by
            cases ha0 : bA g w 0 s with
            | false => simp
            | true =>
              have : ¬ (w.2.1.length + 1) / 2 = cX (y0 (bA g w 0) (bA g w 1)) (frS w) + cX (yf (bA g w 0) (bA g w 1)) (frS w) := fun q => hcase ⟨ha0, q⟩
              simp [this]
          rw [hrhs]
          have hny0 : y0 (bA g w 0) (bA g w 1) s = false := by rw [hy0s, ha1]; simp
          have hstrict : yf (bA g w 0) (bA g w 1) s = true → (w.2.1.length + 1) / 2 ≠ cX (y0 (bA g w 0) (bA g w 1)) (frS w) + cX (yf (bA g w 0) (bA g w 1)) (frS w) := by
            intro q e
            rw [hyfs, Bool.and_eq_true] at q
            exact hcase ⟨q.1, e⟩
          have hl0 := hlen 0 (by omega) (sub_of (by omega) (fun s hs => by rw [Nat.zero_testBit] at hs; cases hs)) (Nat.zero_testBit s)
          -- one stone ahead of it
          have use : ∀ u, u < 9 → (frS w).testBit u = true → u ≠ s → ((y0 (bA g w 0) (bA g w 1) u = true ∧ yf (bA g w 0) (bA g w 1) u = false ∧ 0 < cX (y0 (bA g w 0) (bA g w 1)) (frS w)) ∨ (y0 (bA g w 0) (bA g w 1) u = false ∧ yf (bA g w 0) (bA g w 1) u = true ∧ cX (y0 (bA g w 0) (bA g w 1)) (frS w) = 0)) → jall (fun m => !bad g w 0 m s) 512 = false := by
            intro u hu hub hus hty
            have hp : 2 ^ u < 2 ^ 9 := Nat.pow_lt_pow_right (by omega) hu
            have hsub : adn (2 ^ u) (frS w) = 0 := sub_of hp (fun t ht => by
              rw [Nat.testBit_two_pow] at ht
              have : u = t := by simpa using ht
              rw [← this]; exact hub)
            have hbs : (2 ^ u).testBit s = false := by
              rw [Nat.testBit_two_pow]; simp [hus]
            refine some_ (2 ^ u) hp ((bad_iff _ hp).mpr ⟨hsub, hbs, by rw [ct_one hu]; omega, by rw [ct_one hu]; exact ha1, (KF_iff _ hp hsub).mpr ?_, (KB_iff _ hp hsub hbs).mpr ?_⟩)
            · rw [ct_one hu, cX_one hu, cX_one hu]
              rcases hty with ⟨t1, t2, -⟩ | ⟨t1, t2, -⟩
              · rw [t1, t2]; simp
              · rw [t1, t2]; simp
            · have r0 := hR _ hp hsub hbs (y0 (bA g w 0) (bA g w 1))
              have rf := hR _ hp hsub hbs (yf (bA g w 0) (bA g w 1))
              rw [cX_one hu, hny0] at r0
              rw [cX_one hu] at rf
              rw [ct_one hu]
              rcases hty with ⟨t1, t2, t3⟩ | ⟨t1, t2, t3⟩
              · rw [t1] at r0; rw [t2] at rf
                simp only [Bool.false_eq_true, if_false, if_true, Nat.add_zero] at r0 rf
                cases hy : yf (bA g w 0) (bA g w 1) s with
                | false =>
                  rw [hy] at rf
                  simp only [Bool.false_eq_true, if_false, Nat.add_zero] at rf
                  omega
                | true =>
                  have := hstrict hy
                  rw [hy] at rf
                  simp only [if_true] at rf
                  omega
              · rw [t1] at r0; rw [t2] at rf
                simp only [Bool.false_eq_true, if_false, if_true, Nat.add_zero] at r0 rf
                cases hy : yf (bA g w 0) (bA g w 1) s with
                | false =>
                  rw [hy] at rf
                  simp only [Bool.false_eq_true, if_false, Nat.add_zero] at rf
                  omega
                | true =>
                  have := hstrict hy
                  rw [hy] at rf
                  simp only [if_true] at rf
                  omega
          rcases Nat.eq_zero_or_pos (cX (y0 (bA g w 0) (bA g w 1)) (frS w)) with hc0 | hc0
          · have hrem := cX_rem (X := yf (bA g w 0) (bA g w 1)) hal hs hb
            have hpos : 0 < cX (yf (bA g w 0) (bA g w 1)) (adn (frS w) (2 ^ s)) := by
              cases hy : yf (bA g w 0) (bA g w 1) s with
              | false =>
                rw [hy] at hrem
                simp only [Bool.false_eq_true, if_false, Nat.add_zero] at hrem
                omega
              | true =>
                have := hstrict hy
                rw [hy] at hrem
                simp only [if_true] at hrem
                omega
            unfold cX at hpos
            obtain ⟨u, hu, hu2⟩ := fb_ct_pos.mp hpos
            rw [adn_tb (by omega), Nat.testBit_two_pow] at hu2
            simp only [Bool.and_eq_true, Bool.not_eq_true', decide_eq_false_iff_not] at hu2
            have hyu := hu2.2
            refine use u hu hu2.1.1 (fun e => hu2.1.2 e.symm) (Or.inr ⟨?_, hyu, hc0⟩)
            unfold yf at hyu; unfold y0
            rw [Bool.and_eq_true] at hyu
            rw [hyu.2]; simp
          · have hc0' := hc0
            unfold cX at hc0'
            obtain ⟨u, hu, hu2⟩ := fb_ct_pos.mp hc0'
            rw [Bool.and_eq_true] at hu2
            refine use u hu hu2.1 (fun e => by rw [e, hny0] at hu2; exact absurd hu2.2 (by simp)) (Or.inl ⟨hu2.2, ?_, hc0⟩)
            have := hu2.2
            unfold y0 at this; unfold yf
            rw [Bool.and_eq_true, Bool.not_eq_true'] at this
            rw [this.2]; simp
    · rw [if_neg (by omega)]
      show _ = ((bA g w 1 s && !bA g w 0 s) || (decide (w.2.1.length / 2 = cX (fun s => bA g w 1 s && !bA g w 0 s) (frS w) + cX (yf (bA g w 0) (bA g w 1)) (frS w)) && (bA g w 0 s && bA g w 1 s)))
      rw [e1]
      cases ha0 : bA g w 0 s with
      | false =>
        have ha1 : bA g w 1 s = true := by
          unfold yz at hzs
          rw [ha0] at hzs; simpa using hzs
        rw [ha1, none (fun m hm => by
          cases hbd : bad g w 1 m s with
          | false => rfl
          | true =>
            obtain ⟨-, -, c, d, -⟩ := (bad_iff m hm).mp hbd
            have : fb_ct m.testBit 9 % 2 = 0 := by omega
            rw [this, ha0] at d; cases d)]
        rfl
      | true =>
        by_cases hcase : bA g w 1 s = true ∧ w.2.1.length / 2 = cX (y1 (bA g w 0) (bA g w 1)) (frS w) + cX (yf (bA g w 0) (bA g w 1)) (frS w)
        · rw [hcase.1, decide_eq_true hcase.2, none (fun m hm => by
            cases hbd : bad g w 1 m s with
            | false => rfl
            | true =>
              exfalso
              obtain ⟨a, b, c, d, e, f⟩ := (bad_iff m hm).mp hbd
              have f1 := (KF_iff m hm a).mp e
              have f2 := (KB_iff m hm a b).mp f
              have r0 := hR m hm a b (y0 (bA g w 0) (bA g w 1))
              have hl := hlen m hm a b
              rw [hy0s, hcase.1, ha0] at r0
              simp only [Bool.not_true, Bool.and_false, Bool.false_eq_true, if_false] at r0
              have := hcase.2
              omega)]
          rfl
        · have hrhs : (bA g w 1 s && !true || (decide (w.2.1.length / 2 = cX (y1 (bA g w 0) (bA g w 1)) (frS w) + cX (yf (bA g w 0) (bA g w 1)) (frS w)) && (true && bA g w 1 s))) = false := by
            cases ha1 : bA g w 1 s with
            | false => simp
            | true =>
              have : ¬ w.2.1.length / 2 = cX (y1 (bA g w 0) (bA g w 1)) (frS w) + cX (yf (bA g w 0) (bA g w 1)) (frS w) := fun q => hcase ⟨ha1, q⟩
              simp [this]
          rw [hrhs]
          have hs0 : adn 0 (frS w) = 0 := sub_of (by omega) (fun s hs => by rw [Nat.zero_testBit] at hs; cases hs)
          have hb0 := Nat.zero_testBit s
          have hct0 : fb_ct (Nat.testBit 0) 9 = 0 := fb_ct_zero.mpr (fun k _ => Nat.zero_testBit k)
          have hl0 := hlen 0 (by omega) hs0 hb0
          refine some_ 0 (by omega) ((bad_iff 0 (by omega)).mpr ⟨hs0, hb0, by rw [hct0]; omega, by rw [hct0]; exact ha0, (KF_iff 0 (by omega) hs0).mpr ?_, (KB_iff 0 (by omega) hs0 hb0).mpr ?_⟩)
          · rw [hct0, cX_0]; exact ⟨Nat.zero_le _, Nat.zero_le _⟩
          · have r0 := hR 0 (by omega) hs0 hb0 (y0 (bA g w 0) (bA g w 1))
            have rf := hR 0 (by omega) hs0 hb0 (yf (bA g w 0) (bA g w 1))
            rw [cX_0, hy0s, ha0] at r0
            rw [cX_0, hyfs, ha0] at rf
            rw [hct0]
            cases ha1 : bA g w 1 s with
            | false =>
              rw [ha1] at r0 rf
              simp only [Bool.not_false, Bool.and_true, if_true, Bool.and_false, Bool.false_eq_true, if_false, Nat.add_zero] at r0 rf
              omega
            | true =>
              have : ¬ w.2.1.length / 2 = cX (y1 (bA g w 0) (bA g w 1)) (frS w) + cX (yf (bA g w 0) (bA g w 1)) (frS w) := fun q => hcase ⟨ha1, q⟩
              rw [ha1] at r0 rf
              simp only [Bool.not_true, Bool.and_false, Bool.false_eq_true, if_false, Bool.and_self, if_true, Nat.add_zero] at r0 rf
              omega
theorem st_only : St_only Inv_ := by
  intro x_text_length x_text_bytes_ x_reader_at x_reader_first x_reader_second x_reader_stoneTold x_reader_paintTold x_wall_worn x_wall_turn x_wall_order x_wall_pastLength x_wall_heldLength x_wall_past_ x_wall_held_ x_row_length x_row_paintings_ x_game_known_ x_lot_above x_lot_below x_laid_rows x_laid_columns x_laid_paints x_laid_apart x_laid_paintsOf0 x_laid_paintsOf1 x_laid_old x_laid_shut x_laid_all x_laid_firstColumn x_laid_fitsAtFirst x_laid_paintingsOf0 x_laid_paintingsOf1 x_laid_ruledOut_ x_spare_rows x_spare_columns x_spare_paints x_spare_apart x_spare_paintsOf0 x_spare_paintsOf1 x_spare_old x_spare_shut x_spare_all x_spare_firstColumn x_spare_fitsAtFirst x_spare_paintingsOf0 x_spare_paintingsOf1 x_spare_ruledOut_ y_length y_at y_stones y_kept y_done y_rows y_frees y_fewest y_text_ y_told_ y_touches_ y_has_ y_old_ y_beside_ y_slot_ y_row_ y_free_ y_worth_ y_fore_ y_back_ y_got_
  intro p1 hI
  have hI0 := hI
  replace hI : InvC x_text_length x_text_bytes_ x_reader_at x_reader_first x_reader_second x_reader_stoneTold x_reader_paintTold x_wall_worn x_wall_turn x_wall_order x_wall_pastLength x_wall_heldLength x_wall_past_ x_wall_held_ x_row_length x_row_paintings_ x_game_known_ x_lot_above x_lot_below x_laid_rows x_laid_columns x_laid_paints x_laid_apart x_laid_paintsOf0 x_laid_paintsOf1 x_laid_old x_laid_shut x_laid_all x_laid_firstColumn x_laid_fitsAtFirst x_laid_paintingsOf0 x_laid_paintingsOf1 x_laid_ruledOut_ x_spare_rows x_spare_columns x_spare_paints x_spare_apart x_spare_paintsOf0 x_spare_paintsOf1 x_spare_old x_spare_shut x_spare_all x_spare_firstColumn x_spare_fitsAtFirst x_spare_paintingsOf0 x_spare_paintingsOf1 x_spare_ruledOut_ y_length y_at y_stones y_kept y_done y_rows y_frees y_fewest y_text_ y_told_ y_touches_ y_has_ y_old_ y_beside_ y_slot_ y_row_ y_free_ y_worth_ y_fore_ y_back_ y_got_ := hI
  obtain ⟨g, w, d, ps, e, ks, r, rs, len, hg, hIT, hXU, hXS, hMR, hIW, hIP, hIH, hIR, hMem⟩ := hI
  obtain ⟨hW, rfl, rfl, rfl, hSW⟩ := hIW
  cases hp : isN p1 2
  · refine ⟨-1, ((-1 : Int32), y_fore_, y_back_), ?_, ?_, Eq.refl (-1 : Int32), hI0⟩
    · unfold fX9_only
      rw [x_isPainter, hp]; rfl
    · unfold fX10_only
      rw [in01, hp]; rfl
  · obtain ⟨i, hi, -, rfl⟩ := isN_iff.mp hp
    obtain ⟨fo, ba, h1⟩ := only_m hg hMR hW hSW (FU_ge (n := 600) (by omega)) (i := i) (by omega) y_fore_ y_back_
    have hx := x_only hg hXU hW (i := i) (by omega) (FU_ge (n := 12) (by omega))
    have he : (if ordN g w = 0 then 0 else onlyX g w i) = (if ordN g w = 0 then 0 else onlyS g w i) := by
      by_cases h0 : ordN g w = 0
      · rw [if_pos h0, if_pos h0]
      · rw [if_neg h0, if_neg h0, only_eq hg hW (by omega) h0]
    refine ⟨nI (if ordN g w = 0 then 0 else onlyS g w i), (nI (if ordN g w = 0 then 0 else onlyS g w i), fo, ba), ?_, h1, Eq.refl (nI (if ordN g w = 0 then 0 else onlyS g w i)), ?_⟩
    · unfold fX9_only
      rw [x_isPainter, hp, Option.bind_some, if_t, hXU.2.2.2.2.2.2.1, x_loose, Option.bind_some, hx, he]; rfl
    · exact ⟨g, w, d, ps, e, ks, r, rs, len, hg, hIT, hXU, hXS, hMR, ⟨hW, rfl, rfl, rfl, hSW⟩, hIP, hIH, hIR, hMem⟩
