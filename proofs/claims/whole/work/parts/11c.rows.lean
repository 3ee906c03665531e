/-! rows copied -/
theorem xcp_fill {α : Type} (f : Nat → Nat → α) (a0 a n : Nat) : xcp f a0 a 0 0 n = xfill f a 0 n (f a0) := by
  funext x j
  simp only [xcp, xfill, va_cpy]
  by_cases hx : x = a
  · subst hx
    by_cases hj : j < n
    · simp [va_cpy, hj]
    · simp [va_cpy, hj]
  · simp [hx]
theorem nI_mul12 (n : Nat) : nI n * 12 = nI (n * 12) := pk_mul n 12
theorem nI_12mul (n : Nat) : (12 : Int32) * nI n = nI (12 * n) := pk_mul 12 n
theorem nI_5mul (n : Nat) : (5 : Int32) * nI n = nI (5 * n) := pk_mul 5 n
theorem nI_mul5 (n : Nat) : nI n * 5 = nI (n * 5) := pk_mul n 5
theorem nI_72mul (n : Nat) : (72 : Int32) * nI n = nI (72 * n) := pk_mul 72 n
theorem nI_4 (n : Nat) : nI n * 4 = nI (n * 4) := pk_mul n 4
theorem cl0 : Int32.toNatClampNeg 0 = 0 := by decide
theorem nnI {n : Nat} (h : n < 2 ^ 31) : ¬ nI n < 0 := nI_pos h
/-- an image of the class: one of the history's or one of the two -/
def isT (t : Nat) : Prop := t ∈ [43, 46, 49, 52, 55, 58, 61, 64, 67, 70, 73, 77, 80]
theorem isI.T {t : Nat} (h : isI t) : isT t := by
  obtain ⟨q, hq, rfl⟩ := h
  unfold isT
  rcases (show q = 0 ∨ q = 1 ∨ q = 2 ∨ q = 3 ∨ q = 4 ∨ q = 5 ∨ q = 6 ∨ q = 7 ∨ q = 8 ∨ q = 9 ∨ q = 10 by omega) with rfl | rfl | rfl | rfl | rfl | rfl | rfl | rfl | rfl | rfl | rfl <;> decide
theorem isT.o {t : Nat} (h : isT t) (r : xRr) : xisO t 2 = true ∧ xhr r t 0 = some (t + 1) ∧ xhr r t 1 = some (t + 2) ∧ t + 1 < 122 ∧ t + 2 < 122 ∧ xsh (t + 1) = (0, 72) ∧ xsh (t + 2) = (1, 72) ∧ 43 ≤ t := by
  unfold isT at h
  simp only [List.mem_cons, List.not_mem_nil, or_false] at h
  rcases h with rfl | rfl | rfl | rfl | rfl | rfl | rfl | rfl | rfl | rfl | rfl | rfl | rfl <;> exact ⟨by decide, rfl, rfl, by decide, by decide, by decide, by decide, by decide⟩
theorem xcpG_t {a0 a kd n : Nat} (h1 : a < 122) (h2 : a0 < 122) (h3 : xsh a = (kd, 72)) (h4 : xsh a0 = (kd, 72)) (hn : n ≤ 72) : xcpG a0 a kd 0 0 (nI n) = true := by
  have e0 : ¬ (0 : Int32) < 0 := by decide
  simp only [xcpG, h1, h2, h3, h4, e0, nnI (show n < 2 ^ 31 by omega), cl0, cl_nI (show n < 2 ^ 31 by omega), Bool.and_eq_true, decide_eq_true_eq]
  simp
  omega
section ROWS
variable {hi : Nat → Nat → Int32} {hl : Nat → Nat → Int64} {r : xRr}
theorem record_c {t nb : Nat} (ht : isT t) (hb : hi 1 4 = nI nb) (hnb : nb ≤ 6) : F_X2_record t hi hl r = some (xfill (xu hi t 2 (nI nb)) (t + 1) 0 (12 * nb) (hi 3), xfill hl (t + 2) 0 (12 * nb) (hl 4), r) := by
  obtain ⟨o1, o2, o3, o4, o5, o6, o7, o8⟩ := ht.o r
  have e1 : (xu hi t 2 (nI nb)) t 2 = nI nb := xu_at _ _ _ _
  have e3 : (xu hi t 2 (nI nb)) 3 = hi 3 := xu_ne _ _ _ (by omega)
  unfold F_X2_record
  rw [if_pos o1, o2, xbO_some, hb, e1, nI_mul12, if_pos (xcpG_t o4 (by decide) o6 (by decide) (by omega)), o3, xbO_some, cl0, cl_nI (by omega), xcp_fill, e3]
  have e2 : xfill (xu hi t 2 (nI nb)) (t + 1) 0 (nb * 12) (hi 3) t 2 = nI nb := by rw [xfill_out _ _ _ _ _ (Or.inl (by omega)), e1]
  rw [e2, nI_mul12, if_pos (xcpG_t o5 (by decide) o7 (by decide) (by omega)), cl_nI (by omega), xcp_fill, Nat.mul_comm nb 12]
theorem restore_c {t m : Nat} (ht : isT t) (hb : hi t 2 = nI m) (hm : m ≤ 6) : F_X2_restore t hi hl r = some (xfill hi 3 0 (12 * m) (hi (t + 1)), xfill hl 4 0 (12 * m) (hl (t + 2)), r) := by
  obtain ⟨o1, o2, o3, o4, o5, o6, o7, o8⟩ := ht.o r
  have e1 : (if (0 : Int32) < nI m then nI m else 0) = nI m := by
    by_cases h : (0 : Int32) < nI m
    · rw [if_pos h]
    · rw [if_neg h]
      rcases Nat.eq_zero_or_pos m with h0 | h0
      · rw [h0]; rfl
      · exact absurd (show nI 0 < nI m from (nI_ltI (by decide) (by omega)).mpr h0) h
  unfold F_X2_restore
  rw [if_pos o1, o2, xbO_some, hb, e1, nI_mul12, if_pos (xcpG_t (by decide) o4 (by decide) o6 (by omega)), o3, xbO_some, if_pos (xcpG_t (by decide) o5 (by decide) o7 (by omega)), cl0, cl_nI (by omega), xcp_fill, xcp_fill, Nat.mul_comm m 12]
theorem xokA_t {a kd N j : Nat} (ha : a < 122) (hs : xsh a = (kd, N)) (hj : j < N) (hN : N ≤ 10000) : xokA a kd (nI j) = true := by
  simp only [xokA, ha, hs, xok_t hj hN]
  simp
theorem copy_m {a b lo N : Nat} (ha : a < 122) (hb : b < 122) (hsa : xsh a = (0, N)) (hsb : xsh b = (1, N)) (hN : lo + 72 ≤ N) (hN2 : N ≤ 10000) (ha3 : a ≠ 93) (hb4 : b ≠ 94) : F_X12_copy a b (nI lo) hi hl r = some (xfill hi a lo 72 (fun j => hi 93 (j - lo)), xfill hl b lo 72 (fun j => hl 94 (j - lo)), r) := by
  have key : ∀ k n i, i + k = 72 → k < n → F_X12_copy_3 n a b (nI lo) (nI i) (xfill hi a lo i (fun j => hi 93 (j - lo))) (xfill hl b lo i (fun j => hl 94 (j - lo))) r = some (xfill hi a lo 72 (fun j => hi 93 (j - lo)), xfill hl b lo 72 (fun j => hl 94 (j - lo)), r) := by
    intro k
    induction k with
    | zero =>
      intro n i hik hn
      obtain ⟨n, rfl⟩ : ∃ q, n = q + 1 := ⟨n - 1, by omega⟩
      have : i = 72 := by omega
      subst this
      unfold F_X12_copy_3
      rw [if_pos (by decide)]
    | succ k ih =>
      intro n i hik hn
      obtain ⟨n, rfl⟩ : ∃ q, n = q + 1 := ⟨n - 1, by omega⟩
      unfold F_X12_copy_3
      have g : ¬ (72 : Int32) ≤ nI i := by
        have : (72 : Int32) = nI 72 := rfl
        rw [this, nI_leI (by omega) (by omega)]
        omega
      rw [if_neg g, if_pos (xok_t (by omega) (by omega)), nI_add, if_pos (xokA_t ha hsa (by omega) hN2), if_pos (xokA_t hb hsb (by omega) hN2), cl_nI (by omega), cl_nI (by omega), xfill_ne hi _ _ _ (fun h => ha3 h.symm), xfill_ne hl _ _ _ (fun h => hb4 h.symm)]
      rw [xfill_s _ _ _ _ _ (by simp), xfill_s _ _ _ _ _ (by simp)]
      have e : nI i + 1 = nI (i + 1) := nI_1 i
      rw [e]
      exact ih n (i + 1) (by omega) (by omega)
  have h1 := key 72 1000000 0 (by decide) (by decide)
  rw [xfill_0, xfill_0] at h1
  unfold F_X12_copy
  exact h1
theorem copyBack_m {a b lo m N : Nat} (ha : a < 122) (hb : b < 122) (hsa : xsh a = (0, N)) (hsb : xsh b = (1, N)) (hm : m ≤ 72) (hN : lo + m ≤ N) (hN2 : N ≤ 10000) (ha3 : a ≠ 93) (hb4 : b ≠ 94) : F_X12_copyBack a b (nI lo) (nI m) hi hl r = some (xfill hi 93 0 m (fun j => hi a (lo + j)), xfill hl 94 0 m (fun j => hl b (lo + j)), r) := by
  have key : ∀ k n i, i + k = m → k < n → F_X12_copyBack_3 n a b (nI lo) (nI m) (nI i) (xfill hi 93 0 i (fun j => hi a (lo + j))) (xfill hl 94 0 i (fun j => hl b (lo + j))) r = some (xfill hi 93 0 m (fun j => hi a (lo + j)), xfill hl 94 0 m (fun j => hl b (lo + j)), r) := by
    intro k
    induction k with
    | zero =>
      intro n i hik hn
      obtain ⟨n, rfl⟩ : ∃ q, n = q + 1 := ⟨n - 1, by omega⟩
      have : i = m := by omega
      subst this
      unfold F_X12_copyBack_3
      rw [if_pos ((nI_leI (by omega) (by omega)).mpr (Nat.le_refl _))]
    | succ k ih =>
      intro n i hik hn
      obtain ⟨n, rfl⟩ : ∃ q, n = q + 1 := ⟨n - 1, by omega⟩
      unfold F_X12_copyBack_3
      have g : ¬ nI m ≤ nI i := by
        rw [nI_leI (by omega) (by omega)]
        omega
      rw [if_neg g, nI_add, if_pos (xokA_t ha hsa (by omega) hN2), if_pos (xok_t (by omega) (by omega)), if_pos (xokA_t hb hsb (by omega) hN2), cl_nI (by omega), cl_nI (by omega), xfill_ne hi _ _ _ ha3, xfill_ne hl _ _ _ hb4]
      have s1 := xfill_s hi 93 0 i (fun j => hi a (lo + j)) (w := hi a (lo + i)) (by simp)
      have s2 := xfill_s hl 94 0 i (fun j => hl b (lo + j)) (w := hl b (lo + i)) (by simp)
      rw [Nat.zero_add] at s1 s2
      rw [s1, s2]
      have e : nI i + 1 = nI (i + 1) := nI_1 i
      rw [e]
      exact ih n (i + 1) (by omega) (by omega)
  have h1 := key m 1000000 0 (by omega) (by omega)
  rw [xfill_0, xfill_0] at h1
  unfold F_X12_copyBack
  exact h1
end ROWS
theorem lp_at {nv ln : Nat} {lp : Nat → Nat} {hi : Nat → Nat → Int32} (h : IL nv ln lp hi) {i : Nat} (hi9 : i < ln) : hi 107 (5 * i) = nI (lp (5 * i)) ∧ lp (5 * i) ≤ 6 := ⟨(h.2.2.2.2.1 _ (by omega)).2, (h.2.2.2.2.2.1 i hi9).1⟩
theorem open_m {nv ln : Nat} {lp : Nat → Nat} {hi : Nat → Nat → Int32} {hl : Nat → Nat → Int64} {r : xRr} (h : IL nv ln lp hi) : F_X12_open hi hl r = some (nI (opn lp ln), hi, hl, r) := by
  have hln := h.1
  have key : ∀ k n i, i + k = ln → k < n → F_X12_open_4 n (nI (opn lp i)) (nI i) hi hl r = some (nI (opn lp ln), hi, hl, r) := by
    intro k
    induction k with
    | zero =>
      intro n i hik hn
      obtain ⟨n, rfl⟩ : ∃ q, n = q + 1 := ⟨n - 1, by omega⟩
      have : i = ln := by omega
      subst this
      unfold F_X12_open_4
      rw [h.2.2.1, if_pos ((nI_leI (by omega) (by omega)).mpr (Nat.le_refl _))]
    | succ k ih =>
      intro n i hik hn
      obtain ⟨n, rfl⟩ : ∃ q, n = q + 1 := ⟨n - 1, by omega⟩
      unfold F_X12_open_4
      have g : ¬ nI ln ≤ nI i := by
        rw [nI_leI (by omega) (by omega)]
        omega
      obtain ⟨e1, e2⟩ := lp_at h (show i < ln by omega)
      have hopn := h.2.2.2.2.2.2 i (by omega)
      rw [h.2.2.1, if_neg g, nI_5mul, if_pos (xok_t (by omega) (by omega)), cl_nI (by omega), e1]
      have i5 : (nI (lp (5 * i)) = (5 : Int32)) = (lp (5 * i) = 5) := nI_eq' (b := 5) (by omega) (by decide)
      have i6 : (nI (lp (5 * i)) = (6 : Int32)) = (lp (5 * i) = 6) := nI_eq' (b := 6) (by omega) (by decide)
      have e : nI i + 1 = nI (i + 1) := nI_1 i
      simp only [i5, i6, F_X12_open_47, e]
      have ih1 := ih n (i + 1) (by omega) (by omega)
      simp only [opn] at ih1
      by_cases c5 : lp (5 * i) = 5
      · rw [if_pos c5] at ih1 ⊢
        rw [show nI (opn lp i) + 1 = nI (opn lp i + 1) from nI_1 _]
        exact ih1
      · rw [if_neg c5] at ih1 ⊢
        by_cases c6 : lp (5 * i) = 6
        · rw [if_pos c6] at ih1 ⊢
          have hpos := ((h.2.2.2.2.2.1 i (by omega)).2.2.2 c6).1
          obtain ⟨o, ho⟩ : ∃ o, opn lp i = o + 1 := ⟨opn lp i - 1, by omega⟩
          rw [ho] at ih1 ⊢
          rw [pk_m1 o]
          exact ih1
        · rw [if_neg c6] at ih1 ⊢
          have e0 : nI (opn lp i) + 0 = nI (opn lp i) := nI_add _ 0
          rw [e0]
          exact ih1
  have h1 := key ln 1000000 0 (by omega) (by omega)
  unfold F_X12_open
  exact h1
