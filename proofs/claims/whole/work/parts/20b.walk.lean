/-! it comes to an end -/
def wE (lp : Nat → Nat) (ln : Nat) (S : Nat → Nat) (i : Nat) : Nat := if i = 0 then ln else bh lp ln (S (i - 1))
def wQ (lp : Nat → Nat) (ln : Nat) (S T : Nat → Nat) : Nat → Nat
  | 0 => 0
  | i + 1 => wQ lp ln S T i + (lp (5 * S i + 1) - 1 - T i) * (bh lp ln (S i) - S i) * 10 ^ (2 - i) + (wE lp ln S i - bh lp ln (S i)) * 10 ^ (3 - i)
def wPhi (lp : Nat → Nat) (ln : Nat) (w : yW) : Nat := wQ lp ln w.2.2.1 w.2.2.2 w.2.1 + (wE lp ln w.2.2.1 w.2.1 - w.1) * 10 ^ (3 - w.2.1)
theorem wQ_ext {lp : Nat → Nat} {ln : Nat} {S T S' T' : Nat → Nat} : ∀ d, (∀ i, i < d → S' i = S i ∧ T' i = T i) → wQ lp ln S' T' d = wQ lp ln S T d := by
  intro d
  induction d with
  | zero => intro _; rfl
  | succ d ih =>
    intro h
    simp only [wQ]
    rw [ih (fun i hi9 => h i (by omega)), (h d (by omega)).1, (h d (by omega)).2]
    have : wE lp ln S' d = wE lp ln S d := by
      unfold wE
      by_cases c : d = 0
      · rw [if_pos c, if_pos c]
      · rw [if_neg c, if_neg c, (h (d - 1) (by omega)).1]
    rw [this]
section PHI
variable {nv ln : Nat} {lp : Nat → Nat}
theorem wPhi_le (hB : LB nv ln lp) (h0 : opn lp ln = 0) (h3 : ∀ i, i ≤ ln → opn lp i ≤ 3) (hln : ln ≤ 16) {w : yW} (h : WI lp ln w) : wPhi lp ln w ≤ 50000 := by
  obtain ⟨at', d, S, T⟩ := w
  obtain ⟨a1, a2, a3⟩ := h
  simp only at a1 a2 a3
  have hd := h3 at' a1
  rw [a2] at hd
  have eb : ∀ i, i ≤ d → wE lp ln S i ≤ 16 := by
    intro i hi9
    unfold wE
    by_cases c : i = 0
    · rw [if_pos c]; exact hln
    · rw [if_neg c]
      obtain ⟨g1, g2, -⟩ := a3 (i - 1) (by omega)
      have := (bh_sp hB h0 (s := S (i - 1)) (by omega) g2).2.1
      omega
  have mb : ∀ i, i < d → (lp (5 * S i + 1) - 1 - T i) * (bh lp ln (S i) - S i) ≤ 9 * 16 := by
    intro i hi9
    obtain ⟨g1, g2, -⟩ := a3 i hi9
    have l9 := ((hB (S i) (by omega)).2.2.1 g2).1
    have := (bh_sp hB h0 (s := S i) (by omega) g2).2.1
    exact Nat.mul_le_mul (by omega) (by omega)
  unfold wPhi
  simp only
  rcases (show d = 0 ∨ d = 1 ∨ d = 2 ∨ d = 3 by omega) with rfl | rfl | rfl | rfl
  · have e0 := eb 0 (by omega)
    simp only [wQ]
    omega
  · have e0 := eb 0 (by omega)
    have e1 := eb 1 (by omega)
    have m0 := mb 0 (by omega)
    simp only [wQ]
    omega
  · have e0 := eb 0 (by omega)
    have e1 := eb 1 (by omega)
    have e2 := eb 2 (by omega)
    have m0 := mb 0 (by omega)
    have m1 := mb 1 (by omega)
    simp only [wQ]
    omega
  · have e0 := eb 0 (by omega)
    have e1 := eb 1 (by omega)
    have e2 := eb 2 (by omega)
    have e3 := eb 3 (by omega)
    have m0 := mb 0 (by omega)
    have m1 := mb 1 (by omega)
    have m2 := mb 2 (by omega)
    simp only [wQ]
    omega
theorem wPhi_lt (hB : LB nv ln lp) (h0 : opn lp ln = 0) (h3 : ∀ i, i ≤ ln → opn lp i ≤ 3) {w : yW} (h : WI lp ln w) (hw : w.1 < ln) (hl : ¬ lp (5 * w.1) < 5) : wPhi lp ln (wNx lp ln w) < wPhi lp ln w := by
  obtain ⟨at', d, S, T⟩ := w
  obtain ⟨a1, a2, a3⟩ := h
  simp only at a1 a2 a3 hw hl
  have l6 := (hB at' hw).1
  have hd := h3 at' a1
  rw [a2] at hd
  have aE : at' < wE lp ln S d := by
    unfold wE
    by_cases c : d = 0
    · rw [if_pos c]; exact hw
    · rw [if_neg c]; exact (a3 (d - 1) (by omega)).2.2.2.2
  unfold wNx
  simp only
  by_cases c5 : lp (5 * at') = 5
  · rw [if_pos c5]
    obtain ⟨b1, b2, b3, b4, b5⟩ := bh_sp hB h0 hw c5
    by_cases c0 : lp (5 * at' + 1) = 0
    · rw [if_pos c0]
      unfold wPhi
      simp only
      have : (wE lp ln S d - bh lp ln at') * 10 ^ (3 - d) < (wE lp ln S d - at') * 10 ^ (3 - d) := Nat.mul_lt_mul_of_pos_right (by omega) (Nat.pow_pos (by decide))
      omega
    · rw [if_neg c0]
      have l9 := ((hB at' hw).2.2.1 c5).1
      have hd1 := h3 (at' + 1) (by omega)
      rw [opn_s, if_pos c5, a2] at hd1
      have bE : bh lp ln at' ≤ wE lp ln S d := by
        unfold wE
        by_cases c : d = 0
        · rw [if_pos c]; exact b2
        · rw [if_neg c]
          obtain ⟨g1, g2, g3, g4, g5⟩ := a3 (d - 1) (by omega)
          obtain ⟨s1, s2, s3, s4, s5⟩ := bh_sp hB h0 (s := S (d - 1)) (by omega) g2
          exact b5 _ g5 (by rw [s3, g3, a2]; omega)
      have e1 : wE lp ln (va_up S d at') (d + 1) = bh lp ln at' := by
        unfold wE
        rw [if_neg (by omega), Nat.add_sub_cancel, up_at]
      have e2 : wE lp ln (va_up S d at') d = wE lp ln S d := by
        unfold wE
        by_cases c : d = 0
        · rw [if_pos c, if_pos c]
        · rw [if_neg c, if_neg c, up_ne (by omega)]
      have e3 := wQ_ext (lp := lp) (ln := ln) (S := S) (T := T) (S' := va_up S d at') (T' := va_up T d 0) d (fun i hi9 => ⟨up_ne (by omega), up_ne (by omega)⟩)
      unfold wPhi
      simp only [wQ]
      rw [e1, e2, e3, up_at, up_at]
      have hX : (lp (5 * at' + 1) - 1 - 0) * (bh lp ln at' - at') ≤ 8 * (bh lp ln at' - at') := Nat.mul_le_mul_right _ (by omega)
      generalize (lp (5 * at' + 1) - 1 - 0) * (bh lp ln at' - at') = Y at hX
      generalize wE lp ln S d = E at *
      rcases (show d = 0 ∨ d = 1 ∨ d = 2 by omega) with rfl | rfl | rfl
      · simp only [Nat.reduceAdd, Nat.reduceSub, Nat.reducePow]
        omega
      · simp only [Nat.reduceAdd, Nat.reduceSub, Nat.reducePow]
        omega
      · simp only [Nat.reduceAdd, Nat.reduceSub, Nat.reducePow]
        omega
  · rw [if_neg c5]
    have c6 : lp (5 * at') = 6 := by omega
    have dp := ((hB at' hw).2.2.2 c6).1
    rw [a2] at dp
    obtain ⟨d, rfl⟩ : ∃ q, d = q + 1 := ⟨d - 1, by omega⟩
    rw [Nat.add_sub_cancel]
    obtain ⟨g1, g2, g3, g4, g5⟩ := a3 d (by omega)
    obtain ⟨s1, s2, s3, s4, s5⟩ := bh_sp hB h0 (s := S d) (by omega) g2
    have o1 : opn lp (at' + 1) = d := by rw [opn_s, if_neg c5, if_pos c6, a2, Nat.add_sub_cancel]
    have eB : bh lp ln (S d) = at' + 1 := by
      have := s5 (at' + 1) (by omega) (by rw [o1, g3]; omega)
      omega
    have e3 := wQ_ext (lp := lp) (ln := ln) (S := S) (T := T) (S' := S) (T' := va_up T d (T d + 1)) d (fun i hi9 => ⟨rfl, up_ne (by omega)⟩)
    have e1 : wE lp ln S (d + 1) = bh lp ln (S d) := by
      unfold wE
      rw [if_neg (by omega), Nat.add_sub_cancel]
    by_cases ct : T d + 1 < lp (5 * S d + 1)
    · rw [if_pos ct]
      unfold wPhi
      simp only [wQ]
      rw [e1, e3, up_at, eB]
      have hm : (lp (5 * S d + 1) - 1 - T d) * (at' + 1 - S d) = (lp (5 * S d + 1) - 1 - (T d + 1)) * (at' + 1 - S d) + (at' + 1 - S d) := by
        rw [show lp (5 * S d + 1) - 1 - T d = (lp (5 * S d + 1) - 1 - (T d + 1)) + 1 by omega, Nat.add_mul, Nat.one_mul]
      rw [hm]
      generalize (lp (5 * S d + 1) - 1 - (T d + 1)) * (at' + 1 - S d) = Y
      generalize wE lp ln S d = E
      rcases (show d = 0 ∨ d = 1 ∨ d = 2 by omega) with rfl | rfl | rfl
      · simp only [Nat.reduceAdd, Nat.reduceSub, Nat.reducePow]
        omega
      · simp only [Nat.reduceAdd, Nat.reduceSub, Nat.reducePow]
        omega
      · simp only [Nat.reduceAdd, Nat.reduceSub, Nat.reducePow]
        omega
    · rw [if_neg ct]
      unfold wPhi
      simp only [wQ]
      rw [e1, e3, eB]
      generalize (lp (5 * S d + 1) - 1 - T d) * (at' + 1 - S d) = Y
      generalize wE lp ln S d = E
      rcases (show d = 0 ∨ d = 1 ∨ d = 2 by omega) with rfl | rfl | rfl
      · simp only [Nat.reduceAdd, Nat.reduceSub, Nat.reducePow]
        omega
      · simp only [Nat.reduceAdd, Nat.reduceSub, Nat.reducePow]
        omega
      · simp only [Nat.reduceAdd, Nat.reduceSub, Nat.reducePow]
        omega
def wStop (lp : Nat → Nat) (ln : Nat) (w : yW) : Prop := ln ≤ w.1 ∨ lp (5 * w.1) < 5
def wGo (lp : Nat → Nat) (ln : Nat) : Nat → yW → yW
  | 0, w => w
  | n + 1, w => if ln ≤ w.1 ∨ lp (5 * w.1) < 5 then w else wGo lp ln n (wNx lp ln w)
/-- on to the next step, or to the end -/
def wS (lp : Nat → Nat) (ln : Nat) (w : yW) : yW := wGo lp ln 50001 w
theorem wGo_sp (hB : LB nv ln lp) (h0 : opn lp ln = 0) (h3 : ∀ i, i ≤ ln → opn lp i ≤ 3) : ∀ n w, WI lp ln w → wPhi lp ln w < n → WI lp ln (wGo lp ln n w) ∧ wStop lp ln (wGo lp ln n w) := by
  intro n
  induction n with
  | zero => intro w _ h; omega
  | succ n ih =>
    intro w hw hp
    unfold wGo
    by_cases c : ln ≤ w.1 ∨ lp (5 * w.1) < 5
    · rw [if_pos c]; exact ⟨hw, c⟩
    · rw [if_neg c]
      simp only [not_or] at c
      have := wPhi_lt hB h0 h3 hw (by omega) c.2
      exact ih _ (hw.nx hB h0 (by omega) c.2) (by omega)
theorem wS_sp (hB : LB nv ln lp) (h0 : opn lp ln = 0) (h3 : ∀ i, i ≤ ln → opn lp i ≤ 3) (hln : ln ≤ 16) {w : yW} (h : WI lp ln w) : WI lp ln (wS lp ln w) ∧ wStop lp ln (wS lp ln w) :=
  wGo_sp hB h0 h3 50001 w h (by have := wPhi_le hB h0 h3 hln h; omega)
end PHI
