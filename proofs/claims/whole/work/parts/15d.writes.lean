/-! writes -/
theorem isOf_t {k : Nat} (hk : k ≤ 7) (n : Int64) : F_X12_isOf (nI k) n = xbP (F_X12_in n (xlow k) (xhig k)) (fun w => if w = 0 ∨ w = 1 then some w else none) := by
  rcases (show k = 0 ∨ k = 1 ∨ k = 2 ∨ k = 3 ∨ k = 4 ∨ k = 5 ∨ k = 6 ∨ k = 7 by omega) with rfl | rfl | rfl | rfl | rfl | rfl | rfl | rfl <;> rfl
def kok (k : Nat) (n : Int64) : Prop := (xlow k).toInt ≤ n.toInt ∧ n.toInt ≤ (xhig k).toInt
theorem isOf_m {k : Nat} (hk : k ≤ 7) (n : Int64) : F_X12_isOf (nI k) n = some (b1 (kok k n)) := by
  rw [isOf_t hk, in_eq, xbP_some]
  unfold kok
  by_cases c : (xlow k).toInt ≤ n.toInt ∧ n.toInt ≤ (xhig k).toInt
  · rw [if_pos c, if_pos (Or.inr rfl), b1_t c]
  · rw [if_neg c, if_pos (Or.inl rfl), b1_f c]
theorem lgrange (n a b : Int64) : (if (lg_cmp n a) < 0 then some (0 : Int32) else if 0 < (lg_cmp n b) then some 0 else some 1) = some (b1 (a.toInt ≤ n.toInt ∧ n.toInt ≤ b.toInt)) := by
  simp only [lg_lt, lg_gt]
  by_cases c1 : n < a
  · have a1 := Int64.lt_iff_toInt_lt.mp c1
    rw [if_pos c1, b1_f (fun q => by omega)]
  · have a1 : ¬ n.toInt < a.toInt := fun q => c1 (Int64.lt_iff_toInt_lt.mpr q)
    rw [if_neg c1]
    by_cases c2 : b < n
    · have a2 := Int64.lt_iff_toInt_lt.mp c2
      rw [if_pos c2, b1_f (fun q => by omega)]
    · have a2 : ¬ b.toInt < n.toInt := fun q => c2 (Int64.lt_iff_toInt_lt.mpr q)
      rw [if_neg c2, b1_t ⟨by omega, by omega⟩]
theorem isThing_c {k : Nat} (hk : k ≤ 7) (n : Int64) : F_X3_isThing (nI k) n = some (b1 (kok k n)) := by
  have e10 : (nI k = (10 : Int32)) = (k = 10) := nI_eq' (b := 10) (by omega) (by decide)
  have e9 : (nI k = (9 : Int32)) = (k = 9) := nI_eq' (b := 9) (by omega) (by decide)
  have e7 : ((7 : Int32) < nI k) = (7 < k) := nI_lt' (a := 7) (by decide) (by omega)
  unfold F_X3_isThing
  simp only [e10, e9, e7]
  rw [if_neg (by omega), if_neg (by omega), if_neg (nI_pos (by omega)), if_neg (by omega), if_pos (xok_t (by omega) (by decide)), cl_nI (by omega), lgrange]
  rfl
theorem b01 (P : Prop) : (if b1 P = 0 then some (0 : Int32) else some 1) = some (b1 P) := by
  by_cases c : P
  · rw [b1_t c]; rfl
  · rw [b1_f c]; rfl
theorem gate (a2 a3 : Int32) (n : Int64) : ((F_X11_within a3 0 1 = some 0 ∨ (F_X11_within a3 0 1 = some 1 ∧ (F_X3_isThing a2 n = some 0 ∨ (F_X3_isThing a2 n = some 1 ∧ a3 = 0 ∧ ¬ a2 ≤ 7)))) ∧ F_X12_isThing a2 a3 n = some 0) ∨ ∃ k w, a2 = nI k ∧ a3 = nI w ∧ w ≤ 1 ∧ (k ≤ 7 ∨ (w = 1 ∧ (k = 9 ∨ k = 10))) ∧ F_X11_within a3 0 1 = some 1 ∧ F_X3_isThing a2 n = some 1 ∧ F_X12_isThing a2 a3 n = some 1 := by
  have q1 : (1 : Int32).toInt = ((2 : Nat) : Int) - 1 := by decide +kernel
  have q1' : (1 : Int64).toInt = ((2 : Nat) : Int) - 1 := by decide +kernel
  rcases rng a2 (n := 8) (by omega) with ⟨k, hk, rfl, ek⟩ | hb
  · have e10 : ¬ nI k = (10 : Int32) := by rw [show (10 : Int32) = nI 10 from rfl, nI_eq (by omega) (by decide)]; omega
    have e9 : ¬ nI k = (9 : Int32) := by rw [show (9 : Int32) = nI 9 from rfl, nI_eq (by omega) (by decide)]; omega
    have tm : F_X12_isThing (nI k) a3 n = xbP (F_X12_in a3.toInt64 0 1) (fun w12 => if w12 = 0 then some 0 else some (b1 (kok k n))) := by
      unfold F_X12_isThing
      rw [if_neg e9, if_neg e10, ii ek hk p7', xbP_some, if_neg (by decide)]
      simp only [isOf_m (show k ≤ 7 by omega), xbP_some, b01]
    have tc := isThing_c (k := k) (by omega) n
    rcases rng a3 (n := 2) (by omega) with ⟨w, hw, rfl, ew⟩ | hb3
    · rw [ii ew hw q1', xbP_some, if_neg (by decide)] at tm
      by_cases c : kok k n
      · rw [b1_t c] at tm tc
        exact Or.inr ⟨k, w, rfl, rfl, by omega, Or.inl (by omega), wi ew hw q1, tc, tm⟩
      · rw [b1_f c] at tm tc
        exact Or.inl ⟨Or.inr ⟨wi ew hw q1, Or.inl tc⟩, tm⟩
    · rw [io hb3 q1', xbP_some, if_pos rfl] at tm
      exact Or.inl ⟨Or.inl (wo hb3 q1), tm⟩
  · have big : ∀ m : Nat, 8 ≤ m → m ≤ 10 → ¬ nI m ≤ (7 : Int32) := fun m h8 h10 => by rw [show (7 : Int32) = nI 7 from rfl, nI_leI (by omega) (by decide)]; omega
    by_cases c10 : a2 = 10
    · have tc : F_X3_isThing a2 n = some 1 := by unfold F_X3_isThing; rw [if_pos c10]
      have tm : F_X12_isThing a2 a3 n = if a3 = 1 then some 1 else some 0 := by
        unfold F_X12_isThing
        rw [if_neg (by rw [c10]; decide), if_pos c10]
      rcases rng a3 (n := 2) (by omega) with ⟨w, hw, rfl, ew⟩ | hb3
      · rcases (show w = 0 ∨ w = 1 by omega) with rfl | rfl
        · rw [if_neg (by decide)] at tm
          exact Or.inl ⟨Or.inr ⟨wi ew hw q1, Or.inr ⟨tc, rfl, by rw [c10]; exact big 10 (by omega) (by omega)⟩⟩, tm⟩
        · rw [if_pos (by decide)] at tm
          exact Or.inr ⟨10, 1, c10, rfl, by omega, Or.inr ⟨rfl, Or.inr rfl⟩, wi ew hw q1, tc, tm⟩
      · rw [if_neg (fun e => hb3 (by rw [e]; decide))] at tm
        exact Or.inl ⟨Or.inl (wo hb3 q1), tm⟩
    · by_cases c9 : a2 = 9
      · have tc : F_X3_isThing a2 n = some (b1 ((0 : Int64).toInt ≤ n.toInt ∧ n.toInt ≤ (9 : Int64).toInt)) := by
          unfold F_X3_isThing
          rw [if_neg c10, if_pos c9, lgrange]
        have tm : F_X12_isThing a2 a3 n = if a3 = 1 then some (b1 ((0 : Int64).toInt ≤ n.toInt ∧ n.toInt ≤ (9 : Int64).toInt)) else some 0 := by
          unfold F_X12_isThing
          rw [if_pos c9, in_eq, xbP_some]
          by_cases c : (0 : Int64).toInt ≤ n.toInt ∧ n.toInt ≤ (9 : Int64).toInt
          · rw [if_pos c, b1_t c]; rfl
          · rw [if_neg c, b1_f c]; rfl
        rcases rng a3 (n := 2) (by omega) with ⟨w, hw, rfl, ew⟩ | hb3
        · by_cases c : (0 : Int64).toInt ≤ n.toInt ∧ n.toInt ≤ (9 : Int64).toInt
          · rw [b1_t c] at tc tm
            rcases (show w = 0 ∨ w = 1 by omega) with rfl | rfl
            · rw [if_neg (by decide)] at tm
              exact Or.inl ⟨Or.inr ⟨wi ew hw q1, Or.inr ⟨tc, rfl, by rw [c9]; exact big 9 (by omega) (by omega)⟩⟩, tm⟩
            · rw [if_pos (by decide)] at tm
              exact Or.inr ⟨9, 1, c9, rfl, by omega, Or.inr ⟨rfl, Or.inl rfl⟩, wi ew hw q1, tc, tm⟩
          · rw [b1_f c] at tc tm
            refine Or.inl ⟨Or.inr ⟨wi ew hw q1, Or.inl tc⟩, ?_⟩
            rw [tm]
            by_cases d : nI w = 1
            · rw [if_pos d]
            · rw [if_neg d]
        · rw [if_neg (fun e => hb3 (by rw [e]; decide))] at tm
          exact Or.inl ⟨Or.inl (wo hb3 q1), tm⟩
      · have tc : F_X3_isThing a2 n = some 0 := by
          unfold F_X3_isThing
          rw [if_neg c10, if_neg c9]
          by_cases d1 : a2 < 0
          · rw [if_pos d1]
          · rw [if_neg d1, if_pos]
            have z1 : ¬ a2.toInt < (0 : Int32).toInt := fun q => d1 (Int32.lt_iff_toInt_lt.mpr q)
            have z0 : (0 : Int32).toInt = 0 := rfl
            refine Int32.lt_iff_toInt_lt.mpr ?_
            rw [p7]
            omega
        have tm : F_X12_isThing a2 a3 n = some 0 := by
          unfold F_X12_isThing
          rw [if_neg c9, if_neg c10, io hb p7', xbP_some, if_pos rfl]
        rcases rng a3 (n := 2) (by omega) with ⟨w, hw, rfl, ew⟩ | hb3
        · exact Or.inl ⟨Or.inr ⟨wi ew hw q1, Or.inl tc⟩, tm⟩
        · exact Or.inl ⟨Or.inl (wo hb3 q1), tm⟩
