/-! new objects -/
def JLz : JL := ((0, 0, 0, (fun _ _ => false), (fun _ _ => false), fun _ => 0), 0, fun _ => 0)
theorem MRz : MR JLz.1 JLz.2.1 (fun _ => 0) (fun _ => 0) (fun _ => 0) (fun _ => 0) JLz.2.2 := by
  refine ⟨rfl, ⟨rfl, rfl, rfl⟩, fun a b _ _ _ _ => rfl, fun i _ => ?_, fun s _ => rfl, fun s hs => ?_⟩
  · have : nb 3 (fun j => pH JLz.1 i (j + 1)) = 0 := nb_zero.mpr (fun j _ => rfl)
    rw [this]; rfl
  · exact absurd hs (Nat.not_lt_zero s)
set_option maxHeartbeats 2000000 in
theorem init_ : St_init Inv_ := by
  obtain ⟨t', to', h', o', b1, hD⟩ := begins_ok (F := FU) (FU_ge (by omega)) MRz
  have hg := hD.1
  have hX := hD.2.1
  obtain ⟨d4, d5, d6, -⟩ := hD.2.2.2.2.1
  have hT := hD.2.2.2.2.2.1
  have hH := hD.2.2.2.2.2.2.1
  have hO := hD.2.2.2.2.2.2.2.1
  obtain ⟨told', touches', has', old', beside', slot', k1, k2, k3⟩ := takes_ok hg d4 d5 d6 hT hH hO (F := FU) (FU_ge (by omega)) 0 0 0 0 (fun _ => 0) (fun _ => 0)
  obtain ⟨al, fc, ft, p0, p1, ro, s1, s2⟩ := x_settle hg hX (F := FU) (FU_ge (by omega)) 0 0 0 0 0 (fun _ => 0)
  have h3 : fX3_init FU = some (1, 4, 2, 273, 7, 7, 0, 0, al, fc, ft, p0, p1, ro) := by
    unfold fX3_init fX3_clear
    rw [Option.bind_some]
    dsimp only
    rw [s1]; rfl
  refine ⟨(0, (fun _ => 0), 0, 0, 0, 0, 0, 0, 0, 0, 0, 0, (fun _ => 0), (fun _ => 0), 0, (fun _ => 0), (fun _ => 0), 0, 0, 1, 4, 2, 273, 7, 7, 0, 0, al, fc, ft, p0, p1, ro, 1, 4, 2, 273, 7, 7, 0, 0, al, fc, ft, p0, p1, ro), (0, 0, nI (pn JP0), 0, 0, 0, 0, 0, (fun _ => 0), told', touches', has', old', beside', slot', (fun _ => 0), (fun _ => 0), (fun _ => 0), (fun _ => 0), (fun _ => 0), (fun _ => 0)), ?_, ?_, ?_⟩
  · unfold fX9_init fX6_init fX4_init fX7_init fX5_init fX0_init fX1_init
    rw [h3]; rfl
  · unfold fX10_init
    rw [b1, Option.bind_some]
    dsimp only
    rw [k1]; rfl
  · exact ⟨JP0, (pO JP0, [], 0), 0, (fun _ => (pO JP0, [], 0)), 0, (fun _ => (pO JP0, [], 0)), 0, (fun _ => (0, 0)), 0, hg, ⟨by omega, rfl, rfl, fun i hi => absurd hi (Nat.not_lt_zero i)⟩, hX, s2, k2, ⟨WOK0 hg, hX.2.2.2.2.2.2.1, rfl, rfl, k3⟩, ⟨by omega, rfl, rfl, fun i hi => absurd hi (Nat.not_lt_zero i)⟩, ⟨by omega, rfl, rfl, fun i hi => absurd hi (Nat.not_lt_zero i)⟩, ⟨by omega, rfl, rfl, fun i hi => absurd hi (Nat.not_lt_zero i)⟩, Mem0 (fun c _ => rfl)⟩
theorem steps_ : Steps Inv_ := ⟨st_write, st_wipe, st_fault, st_lay, st_stone, st_touch, st_may, st_paint, st_rain, st_pass, st_undo, st_tell, st_noRow, st_judge, st_ways, st_fewest, st_scrape, st_matters, st_beer, st_white, st_orders, st_only, st_odds, st_evening, st_keep, st_back, st_count⟩
