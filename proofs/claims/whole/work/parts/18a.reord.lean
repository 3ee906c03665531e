/-! reorders: the order of waves -/
def ofl (w : Nat → Nat) (k wv : Nat) : List Nat := (List.range k).filter (fun i => decide (w i = wv))
def ordL (w : Nat → Nat) (ln : Nat) : Nat → List Nat
  | 0 => []
  | m + 1 => ordL w ln m ++ ofl w ln m
theorem ofl_s (w : Nat → Nat) (k wv : Nat) : ofl w (k + 1) wv = if w k = wv then ofl w k wv ++ [k] else ofl w k wv := by
  unfold ofl
  rw [List.range_succ, List.filter_append]
  by_cases c : w k = wv
  · rw [if_pos c]
    simp [c]
  · rw [if_neg c]
    simp [c]
theorem ofl_mem {w : Nat → Nat} {k wv i : Nat} (h : i ∈ ofl w k wv) : i < k := by
  unfold ofl at h
  exact List.mem_range.mp (List.mem_filter.mp h).1
theorem ordL_mem {w : Nat → Nat} {ln : Nat} : ∀ m i, i ∈ ordL w ln m → i < ln := by
  intro m
  induction m with
  | zero => intro i h; exact absurd h (by simp [ordL])
  | succ m ih =>
    intro i h
    simp only [ordL] at h
    rcases List.mem_append.mp h with h | h
    · exact ih i h
    · exact ofl_mem h
/-- how many lines are of an earlier wave -/
def cbl (w : Nat → Nat) (wv : Nat) : Nat → Nat
  | 0 => 0
  | k + 1 => cbl w wv k + (if w k < wv then 1 else 0)
theorem cbl_s (w : Nat → Nat) (wv : Nat) : ∀ k, cbl w (wv + 1) k = cbl w wv k + (ofl w k wv).length := by
  intro k
  induction k with
  | zero => rfl
  | succ k ih =>
    simp only [cbl]
    rw [ih, ofl_s]
    by_cases c : w k = wv
    · rw [if_pos c, if_pos (by omega), if_neg (by omega)]
      simp
      omega
    · rw [if_neg c]
      by_cases d : w k < wv
      · rw [if_pos d, if_pos (by omega)]
        omega
      · rw [if_neg d, if_neg (by omega)]
        omega
theorem ordL_len (w : Nat → Nat) (ln : Nat) : ∀ m, (ordL w ln m).length = cbl w m ln := by
  intro m
  induction m with
  | zero =>
    have z : ∀ k, cbl w 0 k = 0 := by
      intro k
      induction k with
      | zero => rfl
      | succ k ih => simp [cbl, ih]
    rw [z]
    rfl
  | succ m ih =>
    simp only [ordL]
    rw [List.length_append, ih, cbl_s]
theorem cbl_le (w : Nat → Nat) (wv : Nat) : ∀ k, cbl w wv k ≤ k := by
  intro k
  induction k with
  | zero => exact Nat.le_refl _
  | succ k ih =>
    simp only [cbl]
    by_cases c : w k < wv
    · rw [if_pos c]; omega
    · rw [if_neg c]; omega
theorem cbl_all {w : Nat → Nat} {wv : Nat} : ∀ k, (∀ i, i < k → w i < wv) → cbl w wv k = k := by
  intro k
  induction k with
  | zero => intro _; rfl
  | succ k ih =>
    intro h
    simp only [cbl]
    rw [ih (fun i hi9 => h i (by omega)), if_pos (h k (by omega))]
theorem ofl_mono (w : Nat → Nat) (wv : Nat) {k : Nat} : ∀ m, k ≤ m → (ofl w k wv).length ≤ (ofl w m wv).length := by
  intro m
  induction m with
  | zero => intro h; rw [show k = 0 by omega]; exact Nat.le_refl _
  | succ m ih =>
    intro h
    by_cases e : k = m + 1
    · rw [e]; exact Nat.le_refl _
    · have := ih (by omega)
      rw [ofl_s]
      by_cases c : w m = wv
      · rw [if_pos c]; simp; omega
      · rw [if_neg c]; exact this
/-- while a wave is gone through there is room -/
theorem ord_room {w : Nat → Nat} {ln wv k : Nat} (hk : k < ln) (hw : w k = wv) : (ordL w ln wv ++ ofl w k wv).length < ln := by
  have h1 := cbl_le w (wv + 1) ln
  rw [cbl_s] at h1
  have h2 := ofl_mono w wv (k := k + 1) ln (by omega)
  rw [ofl_s, if_pos hw] at h2
  rw [List.length_append, ordL_len]
  simp at h2
  omega
/-- how many have another place -/
def mvA : Nat → List Nat → Nat
  | _, [] => 0
  | i, k :: t => (if k = i then 0 else 1) + mvA (i + 1) t
theorem mvA_s (k : Nat) : ∀ (L : List Nat) (i : Nat), mvA i (L ++ [k]) = mvA i L + (if k = i + L.length then 0 else 1) := by
  intro L
  induction L with
  | nil => intro i; simp [mvA]
  | cons x t ih =>
    intro i
    simp only [List.cons_append, mvA, List.length_cons]
    rw [ih (i + 1), show i + 1 + t.length = i + (t.length + 1) by omega]
    omega
theorem ordL_end {w : Nat → Nat} {ln : Nat} (hw : ∀ i, i < ln → w i < ln) : ∀ d, ordL w ln (ln + d) = ordL w ln ln := by
  intro d
  induction d with
  | zero => rfl
  | succ d ih =>
    show ordL w ln (ln + d) ++ ofl w ln (ln + d) = _
    have z : ∀ k, k ≤ ln → ofl w k (ln + d) = [] := by
      intro k
      induction k with
      | zero => intro _; rfl
      | succ k ih2 =>
        intro hk
        have := hw k (by omega)
        rw [ofl_s, if_neg (by omega), ih2 (by omega)]
    rw [z ln (Nat.le_refl _), ih, List.append_nil]
section SORT
variable {hl : Nat → Nat → Int64} {r : xRr} {ln : Nat} {w : Nat → Nat}
theorem sort_in (hln : ln ≤ 16) {wv : Nat} (hwv : wv < 16) (hw : ∀ i, i < ln → w i < 16) (K : Int32 → Int32 → Int32 → (Nat → Nat → Int32) → (Nat → Nat → Int64) → xRr → Option (Int32 × xSt)) : ∀ d n k hi, k + d = ln → d < n → hi 30 2 = nI ln → (∀ j, j < ln → hi 39 j = nI (w j)) → (∀ i x, (ordL w ln wv ++ ofl w k wv)[i]? = some x → hi 40 i = nI x) → ∃ hi', F_X10_sortLines_15 K n (nI (ordL w ln wv ++ ofl w k wv).length) (nI (mvA 0 (ordL w ln wv ++ ofl w k wv))) (nI wv) (nI k) hi hl r = K (nI (ordL w ln (wv + 1)).length) (nI (mvA 0 (ordL w ln (wv + 1)))) (nI (wv + 1)) hi' hl r ∧ (∀ a, a ≠ 40 → hi' a = hi a) ∧ (∀ i x, (ordL w ln (wv + 1))[i]? = some x → hi' 40 i = nI x) := by
  intro d
  induction d with
  | zero =>
    intro n k hi hkd hn e30 e39 e40
    obtain ⟨n, rfl⟩ : ∃ q, n = q + 1 := ⟨n - 1, by omega⟩
    have e : k = ln := by omega
    subst e
    refine ⟨hi, ?_, fun _ _ => rfl, e40⟩
    unfold F_X10_sortLines_15
    rw [e30, if_pos ((nI_leI (by omega) (by omega)).mpr (Nat.le_refl _)), show nI wv + 1 = nI (wv + 1) from nI_1 _]
    rfl
  | succ d ih =>
    intro n k hi hkd hn e30 e39 e40
    obtain ⟨n, rfl⟩ : ∃ q, n = q + 1 := ⟨n - 1, by omega⟩
    have g : ¬ nI ln ≤ nI k := by rw [nI_leI (by omega) (by omega)]; omega
    have hwk := hw k (by omega)
    have ew : (nI (w k) = nI wv) = (w k = wv) := nI_eq' (by omega) (by omega)
    unfold F_X10_sortLines_15 F_X10_sortLines_50 F_X10_sortLines_63
    rw [e30, if_neg g, if_pos (xok_t (by omega) (by decide)), cl_nI (by omega), e39 k (by omega), show nI k + 1 = nI (k + 1) from nI_1 k]
    simp only [ew]
    by_cases c : w k = wv
    · have rm := ord_room (w := w) (ln := ln) (k := k) (by omega) c
      have es : ordL w ln wv ++ ofl w (k + 1) wv = (ordL w ln wv ++ ofl w k wv) ++ [k] := by rw [ofl_s, if_pos c, List.append_assoc]
      generalize eL : ordL w ln wv ++ ofl w k wv = L at rm es e40
      have ek : (nI k = nI L.length) = (k = L.length) := nI_eq' (by omega) (by omega)
      obtain ⟨hi', z1, z2, z3⟩ := ih n (k + 1) (xu hi 40 L.length (nI k)) (by omega) (by omega) (by rw [xu_ne2 _ _ (Or.inl (by decide))]; exact e30) (fun j hj => by rw [xu_ne2 _ _ (Or.inl (by decide))]; exact e39 j hj) (fun i x hx => by
        rw [es] at hx
        rcases Nat.lt_or_ge i L.length with hl9 | hl9
        · rw [List.getElem?_append_left hl9] at hx
          rw [xu_ne2 _ _ (Or.inr (by omega))]
          exact e40 i x hx
        · by_cases e : i = L.length
          · subst e
            rw [List.getElem?_append_right (Nat.le_refl _)] at hx
            simp at hx
            rw [xu_at, hx]
          · rw [List.getElem?_eq_none (by simp; omega)] at hx
            exact absurd hx (by simp))
      refine ⟨hi', ?_, fun a ha => by rw [z2 a ha, xu_ne _ _ _ ha], z3⟩
      rw [if_pos c, ← z1, es, List.length_append, mvA_s]
      simp only [ek, Nat.zero_add]
      rw [if_pos (xok_t (by omega) (by decide)), if_pos (xok_t (by omega) (by decide)), cl_nI (by omega), show nI L.length + 1 = nI (L.length + [k].length) from nI_1 _]
      by_cases d : k = L.length
      · rw [if_pos d, if_pos d, show nI (mvA 0 L) + 0 = nI (mvA 0 L + 0) from nI_add _ 0]
      · rw [if_neg d, if_neg d, show nI (mvA 0 L) + 1 = nI (mvA 0 L + 1) from nI_1 _]
    · have es : ordL w ln wv ++ ofl w (k + 1) wv = ordL w ln wv ++ ofl w k wv := by rw [ofl_s, if_neg c]
      obtain ⟨hi', z1, z2, z3⟩ := ih n (k + 1) hi (by omega) (by omega) e30 e39 (by rw [es]; exact e40)
      rw [es] at z1
      exact ⟨hi', by rw [if_neg c, z1], z2, z3⟩
theorem sort_out (hln : ln ≤ 16) (hw : ∀ i, i < ln → w i < 16) : ∀ d n wv hi, wv + d = 16 → d < n → hi 30 2 = nI ln → (∀ j, j < ln → hi 39 j = nI (w j)) → (∀ i x, (ordL w ln wv)[i]? = some x → hi 40 i = nI x) → ∃ hi', F_X10_sortLines_6 n (nI (ordL w ln wv).length) (nI (mvA 0 (ordL w ln wv))) (nI wv) hi hl r = xbV (F_X4_lieAs 40 hi' hl r) (fun hi3 hl3 r3 => some (nI (mvA 0 (ordL w ln 16)), hi3, hl3, r3)) ∧ (∀ a, a ≠ 40 → hi' a = hi a) ∧ (∀ i x, (ordL w ln 16)[i]? = some x → hi' 40 i = nI x) := by
  intro d
  induction d with
  | zero =>
    intro n wv hi hkd hn e30 e39 e40
    obtain ⟨n, rfl⟩ : ∃ q, n = q + 1 := ⟨n - 1, by omega⟩
    have e : wv = 16 := by omega
    subst e
    refine ⟨hi, ?_, fun _ _ => rfl, e40⟩
    unfold F_X10_sortLines_6
    rw [if_pos (by decide)]
  | succ d ih =>
    intro n wv hi hkd hn e30 e39 e40
    obtain ⟨n, rfl⟩ : ∃ q, n = q + 1 := ⟨n - 1, by omega⟩
    have g : ¬ (16 : Int32) ≤ nI wv := by rw [show (16 : Int32) = nI 16 from rfl, nI_leI (by omega) (by omega)]; omega
    have e0 : ordL w ln wv ++ ofl w 0 wv = ordL w ln wv := List.append_nil _
    obtain ⟨hi1, q1, q2, q3⟩ := sort_in (hl := hl) (r := r) hln (wv := wv) (by omega) hw (F_X10_sortLines_6 n) ln 1000000 0 hi (by omega) (by omega) e30 e39 (by rw [e0]; exact e40)
    rw [e0, show nI 0 = (0 : Int32) from rfl] at q1
    obtain ⟨hi', z1, z2, z3⟩ := ih n (wv + 1) hi1 (by omega) (by omega) (by rw [q2 30 (by decide)]; exact e30) (fun j hj => by rw [q2 39 (by decide)]; exact e39 j hj) q3
    refine ⟨hi', ?_, fun a ha => by rw [z2 a ha, q2 a ha], z3⟩
    unfold F_X10_sortLines_6
    rw [if_neg g, q1, z1]
end SORT
