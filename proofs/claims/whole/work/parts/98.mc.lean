/-! the first state, and the law's loop over it -/
theorem xInv_0 {hi : Nat → Nat → Int32} {hl : Nat → Nat → Int64} (hI : xInit hi hl) : xInv hi hl xr0 := by
  have g : ∀ a j (v : Int32), a < 122 → j < (xsh a).2 → (xsh a).2 ≤ 144 → xini a j = v → hi a j = v := fun a j v h1 h2 h3 h4 => (hI a j h1 h2 h3).1.trans h4
  have g7 : ∀ a, a < 122 → (xsh a).2 ≤ 144 → 7 ≤ (xsh a).2 → (∀ j, j < 7 → xini a j = 0) → ∀ j, j < 7 → hi a j = 0 := fun a h1 h2 h3 h4 j hj => g a j 0 h1 (by omega) h2 (h4 j hj)
  refine ⟨0, fun _ => 0, fun _ => 0, fun _ => 0, fun _ => 0, 0, fun _ => 0, fun _ => 0, fun _ => 0, fun _ => 0, fun _ => 0, fun _ => [], fun _ => 0, 10, 0, [], 0, fun _ => none, 0, fun _ => 0, fun _ => 0, fun _ => 0, 0, fun _ => 0, fun _ => 0, ?_, ?_, ?_, ?_, ?_, ?_, ?_, ?_, ?_⟩
  · exact ⟨by omega, g 1 4 _ (by decide) (by decide) (by decide) (by decide), g 90 1 _ (by decide) (by decide) (by decide) (by decide), fun b hb => by omega, fun k hk => by omega⟩
  · exact ⟨by omega, g 6 8 _ (by decide) (by decide) (by decide) (by decide), g 90 6 _ (by decide) (by decide) (by decide) (by decide), fun v hv => by omega⟩
  · exact ⟨Or.inr (Or.inr rfl), g 85 0 _ (by decide) (by decide) (by decide) (by decide), (hI 85 1 (by decide) (by decide) (by decide)).2, g 90 13 _ (by decide) (by decide) (by decide) (by decide), (hI 90 14 (by decide) (by decide) (by decide)).2⟩
  · refine ⟨by simp, by omega, g 41 2 _ (by decide) (by decide) (by decide) (by decide), g 41 3 _ (by decide) (by decide) (by decide) (by decide), g 90 15 _ (by decide) (by decide) (by decide) (by decide), ⟨⟨0, by omega, rfl⟩, fun j hj => ⟨46 + 3 * j, if_pos hj, ⟨j + 1, by omega, by omega⟩, by show 46 + 3 * j ≠ 43; omega⟩, fun i j hi9 hj9 e => ?_⟩, fun i s hs => by simp at hs⟩
    have e1 : xr0.2 i = some (46 + 3 * i) := if_pos hi9
    have e2 : xr0.2 j = some (46 + 3 * j) := if_pos hj9
    rw [e1, e2] at e
    have := Option.some.inj e
    omega
  · intro j hj
    rcases (show j = 0 ∨ j = 1 by omega) with rfl | rfl
    · exact ⟨g 77 2 _ (by decide) (by decide) (by decide) (by decide), g 106 0 _ (by decide) (by decide) (by decide) (by decide)⟩
    · exact ⟨g 80 2 _ (by decide) (by decide) (by decide) (by decide), g 106 1 _ (by decide) (by decide) (by decide) (by decide)⟩
  · exact ⟨by omega, g 30 2 _ (by decide) (by decide) (by decide) (by decide), g 90 22 _ (by decide) (by decide) (by decide) (by decide), g 30 3 _ (by decide) (by decide) (by decide) (by decide), fun k hk => by omega, fun i hi9 => by omega, fun i hi9 => by rw [show i = 0 by omega]; decide⟩
  · intro j hj
    exact ⟨Nat.zero_le _, Nat.zero_le _, g7 87 (by decide) (by decide) (by decide) (by decide) j hj, g7 108 (by decide) (by decide) (by decide) (by decide) j hj, g7 88 (by decide) (by decide) (by decide) (by decide) j hj, g7 109 (by decide) (by decide) (by decide) (by decide) j hj⟩
  · refine ⟨by omega, g 83 2 _ (by decide) (by decide) (by decide) (by decide), g 90 26 _ (by decide) (by decide) (by decide) (by decide), ?_, fun j hj => ?_, fun j hj => by omega⟩
    · rw [lft_0]
      exact g 83 1 _ (by decide) (by decide) (by decide) (by decide)
    · have t : ∀ j, j < 26 → j < (xsh 84).2 ∧ xini 84 j = xwell.getD j 0 := by decide
      exact g 84 j _ (by decide) (t j hj).1 (by decide) (t j hj).2
  · refine Or.inl ⟨g 90 29 _ (by decide) (by decide) (by decide) (by decide), fun j hj => ?_⟩
    have t : ∀ j, j < 104 → j < (xsh 121).2 ∧ xini 121 j = 0 := by decide +kernel
    exact g 121 j _ (by decide) (t j hj).1 (by decide) (t j hj).2
theorem xMC (z : xZ) (hz : z.1 ≤ 3584) (hi : Nat → Nat → Int32) (hl : Nat → Nat → Int64) (hI : xInit hi hl) : ∃ st, F_L_law_18 z 1000000 0 hi hl xr0 = some (1, st) := law_loop (J := xInv) z hz op_bank op_view op_clear op_reads op_looks op_number op_kind op_writes op_does op_copies op_undo op_plans op_drops op_modes op_runs op_line op_met op_forecast op_wave op_reorders op_joins op_would op_shares op_safe op_sees op_forget op_unseen op_fewest op_keep op_back op_count 1000000 0 hi hl xr0 (by omega) (by omega) (xInv_0 hI)
