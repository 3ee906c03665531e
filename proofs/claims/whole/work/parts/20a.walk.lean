/-! going through lines and turns: pure -/
def bhf (lp : Nat → Nat) (b : Nat) : Nat → Nat → Nat
  | 0, x => x
  | d + 1, x => if opn lp x ≤ b then x else bhf lp b d (x + 1)
/-- behind the end of turns that begin at a line -/
def bh (lp : Nat → Nat) (ln s : Nat) : Nat := bhf lp (opn lp s) (ln - (s + 1)) (s + 1)
theorem bhf_sp (lp : Nat → Nat) (b : Nat) : ∀ d x, opn lp (x + d) ≤ b → x ≤ bhf lp b d x ∧ bhf lp b d x ≤ x + d ∧ opn lp (bhf lp b d x) ≤ b ∧ (∀ y, x ≤ y → y < bhf lp b d x → b < opn lp y) := by
  intro d
  induction d with
  | zero =>
    intro x h
    exact ⟨Nat.le_refl _, Nat.le_refl _, h, fun y h1 h2 => by have : y < x := h2; omega⟩
  | succ d ih =>
    intro x h
    simp only [bhf]
    by_cases c : opn lp x ≤ b
    · rw [if_pos c]
      exact ⟨Nat.le_refl _, by omega, c, fun y h1 h2 => by omega⟩
    · rw [if_neg c]
      obtain ⟨h1, h2, h3, h4⟩ := ih (x + 1) (by rw [show x + 1 + d = x + (d + 1) by omega]; exact h)
      refine ⟨by omega, by omega, h3, fun y k1 k2 => ?_⟩
      by_cases e : y = x
      · rw [e]; omega
      · exact h4 y (by omega) k2
section WALK
variable {nv ln : Nat} {lp : Nat → Nat}
theorem opn_s (x : Nat) : opn lp (x + 1) = if lp (5 * x) = 5 then opn lp x + 1 else if lp (5 * x) = 6 then opn lp x - 1 else opn lp x := rfl
theorem bh_sp (hB : LB nv ln lp) (h0 : opn lp ln = 0) {s : Nat} (hs : s < ln) (h5 : lp (5 * s) = 5) : s + 1 < bh lp ln s ∧ bh lp ln s ≤ ln ∧ opn lp (bh lp ln s) = opn lp s ∧ (∀ y, s < y → y < bh lp ln s → opn lp s < opn lp y) ∧ (∀ y, s < y → opn lp y ≤ opn lp s → bh lp ln s ≤ y) := by
  have q := bhf_sp lp (opn lp s) (ln - (s + 1)) (s + 1) (by rw [show s + 1 + (ln - (s + 1)) = ln by omega, h0]; omega)
  change s + 1 ≤ bh lp ln s ∧ bh lp ln s ≤ s + 1 + (ln - (s + 1)) ∧ opn lp (bh lp ln s) ≤ opn lp s ∧ (∀ y, s + 1 ≤ y → y < bh lp ln s → opn lp s < opn lp y) at q
  obtain ⟨q1, q2, q3, q4⟩ := q
  have e1 : opn lp (s + 1) = opn lp s + 1 := by rw [opn_s, if_pos h5]
  have q5 : s + 1 < bh lp ln s := by
    rcases Nat.lt_or_ge (s + 1) (bh lp ln s) with c | c
    · exact c
    · have : bh lp ln s = s + 1 := by omega
      rw [this, e1] at q3
      omega
  refine ⟨q5, by omega, ?_, fun y h1 h2 => q4 y (by omega) h2, fun y h1 h2 => ?_⟩
  · obtain ⟨z, hz⟩ : ∃ z, bh lp ln s = z + 1 := ⟨bh lp ln s - 1, by omega⟩
    rw [hz] at q3 ⊢
    have z1 := q4 z (by omega) (by omega)
    rw [opn_s] at q3 ⊢
    by_cases c5 : lp (5 * z) = 5
    · rw [if_pos c5] at q3; omega
    · rw [if_neg c5] at q3 ⊢
      by_cases c6 : lp (5 * z) = 6
      · rw [if_pos c6] at q3 ⊢; omega
      · rw [if_neg c6] at q3; omega
  · rcases Nat.lt_or_ge y (bh lp ln s) with c | c
    · have := q4 y (by omega) c; omega
    · exact c
abbrev yW : Type := Nat × Nat × (Nat → Nat) × (Nat → Nat)
def WI (lp : Nat → Nat) (ln : Nat) (w : yW) : Prop := w.1 ≤ ln ∧ opn lp w.1 = w.2.1 ∧ ∀ i, i < w.2.1 → w.2.2.1 i < w.1 ∧ lp (5 * w.2.2.1 i) = 5 ∧ opn lp (w.2.2.1 i) = i ∧ w.2.2.2 i < lp (5 * w.2.2.1 i + 1) ∧ w.1 < bh lp ln (w.2.2.1 i)
/-- a line that is no step is gone by -/
def wNx (lp : Nat → Nat) (ln : Nat) (w : yW) : yW :=
  if lp (5 * w.1) = 5 then (if lp (5 * w.1 + 1) = 0 then (bh lp ln w.1, w.2) else (w.1 + 1, w.2.1 + 1, va_up w.2.2.1 w.2.1 w.1, va_up w.2.2.2 w.2.1 0))
  else if w.2.2.2 (w.2.1 - 1) + 1 < lp (5 * w.2.2.1 (w.2.1 - 1) + 1) then (w.2.2.1 (w.2.1 - 1) + 1, w.2.1, w.2.2.1, va_up w.2.2.2 (w.2.1 - 1) (w.2.2.2 (w.2.1 - 1) + 1))
  else (w.1 + 1, w.2.1 - 1, w.2.2.1, va_up w.2.2.2 (w.2.1 - 1) (w.2.2.2 (w.2.1 - 1) + 1))
theorem up_at {f : Nat → Nat} {i v : Nat} : va_up f i v i = v := by simp [va_up]
theorem up_ne {f : Nat → Nat} {i j v : Nat} (h : j ≠ i) : va_up f i v j = f j := by simp [va_up, h]
/-- in front of the same ends -/
theorem bh_in {x s : Nat} (h1 : x ≤ bh lp ln s) (h2 : opn lp (bh lp ln s) = opn lp s) (h3 : opn lp s < opn lp x) : x < bh lp ln s := by
  rcases Nat.lt_or_ge x (bh lp ln s) with c | c
  · exact c
  · have : x = bh lp ln s := by omega
    rw [this] at h3
    omega
theorem WI.nx (hB : LB nv ln lp) (h0 : opn lp ln = 0) {w : yW} (h : WI lp ln w) (hw : w.1 < ln) (hl : ¬ lp (5 * w.1) < 5) : WI lp ln (wNx lp ln w) := by
  obtain ⟨at', d, S, T⟩ := w
  obtain ⟨a1, a2, a3⟩ := h
  simp only at a1 a2 a3 hw hl
  have l6 := (hB at' hw).1
  unfold wNx
  simp only
  by_cases c5 : lp (5 * at') = 5
  · rw [if_pos c5]
    obtain ⟨b1, b2, b3, b4, b5⟩ := bh_sp hB h0 hw c5
    by_cases c0 : lp (5 * at' + 1) = 0
    · rw [if_pos c0]
      refine ⟨b2, by show opn lp (bh lp ln at') = d; rw [b3, a2], fun i hi9 => ?_⟩
      have hi9' : i < d := hi9
      obtain ⟨g1, g2, g3, g4, g5⟩ := a3 i hi9'
      obtain ⟨s1, s2, s3, s4, s5⟩ := bh_sp hB h0 (s := S i) (by omega) g2
      refine ⟨by show S i < bh lp ln at'; omega, g2, g3, g4, ?_⟩
      show bh lp ln at' < bh lp ln (S i)
      exact bh_in (b5 _ g5 (by rw [s3, g3, a2]; omega)) s3 (by rw [b3, g3, a2]; omega)
    · rw [if_neg c0]
      refine ⟨by show at' + 1 ≤ ln; omega, by show opn lp (at' + 1) = d + 1; rw [opn_s, if_pos c5, a2], fun i hi9 => ?_⟩
      have hi9' : i < d + 1 := hi9
      show va_up S d at' i < at' + 1 ∧ lp (5 * va_up S d at' i) = 5 ∧ opn lp (va_up S d at' i) = i ∧ va_up T d 0 i < lp (5 * va_up S d at' i + 1) ∧ at' + 1 < bh lp ln (va_up S d at' i)
      by_cases e : i = d
      · subst e
        rw [up_at, up_at]
        exact ⟨by omega, c5, a2, by omega, b1⟩
      · rw [up_ne e, up_ne e]
        obtain ⟨g1, g2, g3, g4, g5⟩ := a3 i (by omega)
        obtain ⟨s1, s2, s3, s4, s5⟩ := bh_sp hB h0 (s := S i) (by omega) g2
        exact ⟨by omega, g2, g3, g4, bh_in (by omega) s3 (by rw [opn_s, if_pos c5, g3, a2]; omega)⟩
  · rw [if_neg c5]
    have c6 : lp (5 * at') = 6 := by omega
    have dp := ((hB at' hw).2.2.2 c6).1
    rw [a2] at dp
    obtain ⟨g1, g2, g3, g4, g5⟩ := a3 (d - 1) (by omega)
    obtain ⟨s1, s2, s3, s4, s5⟩ := bh_sp hB h0 (s := S (d - 1)) (by omega) g2
    have o1 : opn lp (at' + 1) = d - 1 := by rw [opn_s, if_neg c5, if_pos c6, a2]
    by_cases ct : T (d - 1) + 1 < lp (5 * S (d - 1) + 1)
    · rw [if_pos ct]
      refine ⟨by show S (d - 1) + 1 ≤ ln; omega, by show opn lp (S (d - 1) + 1) = d; rw [opn_s, if_pos g2, g3]; omega, fun i hi9 => ?_⟩
      have hi9' : i < d := hi9
      show S i < S (d - 1) + 1 ∧ lp (5 * S i) = 5 ∧ opn lp (S i) = i ∧ va_up T (d - 1) (T (d - 1) + 1) i < lp (5 * S i + 1) ∧ S (d - 1) + 1 < bh lp ln (S i)
      by_cases e : i = d - 1
      · subst e
        rw [up_at]
        exact ⟨by omega, g2, g3, ct, s1⟩
      · rw [up_ne e]
        obtain ⟨k1, k2, k3, k4, k5⟩ := a3 i hi9'
        obtain ⟨t1, t2, t3, t4, t5⟩ := bh_sp hB h0 (s := S i) (by omega) k2
        have lt1 : S i < S (d - 1) := by
          rcases Nat.lt_or_ge (S i) (S (d - 1)) with c | c
          · exact c
          · by_cases ee : S i = S (d - 1)
            · rw [ee] at k3; omega
            · have := s4 (S i) (by omega) (by omega)
              omega
        exact ⟨by omega, k2, k3, k4, bh_in (by omega) t3 (by rw [opn_s, if_pos g2, g3, k3]; omega)⟩
    · rw [if_neg ct]
      refine ⟨by show at' + 1 ≤ ln; omega, o1, fun i hi9 => ?_⟩
      have hi9' : i < d - 1 := hi9
      show S i < at' + 1 ∧ lp (5 * S i) = 5 ∧ opn lp (S i) = i ∧ va_up T (d - 1) (T (d - 1) + 1) i < lp (5 * S i + 1) ∧ at' + 1 < bh lp ln (S i)
      rw [up_ne (by omega)]
      obtain ⟨k1, k2, k3, k4, k5⟩ := a3 i (by omega)
      obtain ⟨t1, t2, t3, t4, t5⟩ := bh_sp hB h0 (s := S i) (by omega) k2
      exact ⟨by omega, k2, k3, k4, bh_in (by omega) t3 (by rw [o1, k3]; omega)⟩
theorem WI.st (hB : LB nv ln lp) (h0 : opn lp ln = 0) {w : yW} (h : WI lp ln w) (hw : w.1 < ln) (hl : lp (5 * w.1) < 5) : WI lp ln (w.1 + 1, w.2) := by
  obtain ⟨at', d, S, T⟩ := w
  obtain ⟨a1, a2, a3⟩ := h
  simp only at a1 a2 a3 hw hl
  have o1 : opn lp (at' + 1) = d := by rw [opn_s, if_neg (by omega), if_neg (by omega), a2]
  refine ⟨by show at' + 1 ≤ ln; omega, o1, fun i hi9 => ?_⟩
  have hi9' : i < d := hi9
  obtain ⟨k1, k2, k3, k4, k5⟩ := a3 i hi9'
  obtain ⟨t1, t2, t3, t4, t5⟩ := bh_sp hB h0 (s := S i) (by omega) k2
  refine ⟨by show S i < at' + 1; omega, k2, k3, k4, ?_⟩
  show at' + 1 < bh lp ln (S i)
  exact bh_in (by omega) t3 (by rw [o1, k3]; omega)
/-- out of the innermost turns -/
def wLv (lp : Nat → Nat) (ln : Nat) (w : yW) : yW := if w.2.1 = 0 then (ln, w.2) else (bh lp ln (w.2.2.1 (w.2.1 - 1)), w.2.1 - 1, w.2.2)
theorem WI.lv (hB : LB nv ln lp) (h0 : opn lp ln = 0) {w : yW} (h : WI lp ln w) : WI lp ln (wLv lp ln w) := by
  obtain ⟨at', d, S, T⟩ := w
  obtain ⟨a1, a2, a3⟩ := h
  simp only at a1 a2 a3
  unfold wLv
  simp only
  by_cases c : d = 0
  · rw [if_pos c]
    exact ⟨Nat.le_refl _, by show opn lp ln = d; rw [h0, c], fun i hi9 => by have : i < d := hi9; omega⟩
  · rw [if_neg c]
    obtain ⟨g1, g2, g3, g4, g5⟩ := a3 (d - 1) (by omega)
    obtain ⟨s1, s2, s3, s4, s5⟩ := bh_sp hB h0 (s := S (d - 1)) (by omega) g2
    refine ⟨s2, by show opn lp (bh lp ln (S (d - 1))) = d - 1; rw [s3, g3], fun i hi9 => ?_⟩
    have hi9' : i < d - 1 := hi9
    obtain ⟨k1, k2, k3, k4, k5⟩ := a3 i (by omega)
    obtain ⟨t1, t2, t3, t4, t5⟩ := bh_sp hB h0 (s := S i) (by omega) k2
    refine ⟨by show S i < bh lp ln (S (d - 1)); omega, k2, k3, k4, ?_⟩
    show bh lp ln (S (d - 1)) < bh lp ln (S i)
    exact bh_in (s5 _ (by omega) (by rw [t3, k3, g3]; omega)) t3 (by rw [s3, g3, k3]; omega)
end WALK
