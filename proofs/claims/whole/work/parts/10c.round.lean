/-! ROUNDING: both programs' are one function -/
def rq (m t : Nat) : Nat := m / 2 ^ t + (if 2 ^ t < 2 * (m % 2 ^ t) ∨ (2 * (m % 2 ^ t) = 2 ^ t ∧ m / 2 ^ t % 2 = 1) then 1 else 0)
def rN (m t : Nat) : Nat := rq m t * 2 ^ t
def tl (m D : Nat) : Nat := m.log2 + 1 - D
theorem tl_hi (m D : Nat) (hD : 0 < D) : m < 2 ^ (D + tl m D) := by
  by_cases h0 : m = 0
  · subst h0; exact Nat.two_pow_pos _
  · exact (Nat.log2_lt h0).mp (by unfold tl; omega)
theorem tl_lo (m D s : Nat) (hD : 0 < D) (h : s < tl m D) : 2 ^ (D + s) ≤ m := by
  by_cases h0 : m = 0
  · subst h0
    have h1 : Nat.log2 0 = 0 := by decide
    unfold tl at h
    omega
  · exact (Nat.le_log2 h0).mp (by unfold tl at h; omega)
theorem tl_le {m D : Nat} (hm : m < 2 ^ 63) (hD : 24 ≤ D) : tl m D ≤ 39 := by
  by_cases h0 : m = 0
  · subst h0
    unfold tl
    simp
    omega
  · have := (Nat.log2_lt h0).mpr hm
    unfold tl
    omega
theorem rN_0 (m : Nat) : rN m 0 = m := by
  simp [rN, rq, Nat.mod_one]
theorem pow_ev {t : Nat} (h : 0 < t) : 2 ^ t = 2 * 2 ^ (t - 1) := by
  obtain ⟨s, rfl⟩ : ∃ s, t = s + 1 := ⟨t - 1, by omega⟩
  rw [Nat.pow_succ, Nat.add_sub_cancel, Nat.mul_comm]
theorem pow39 {t : Nat} (h : t ≤ 39) : 2 ^ t ≤ 549755813888 := by
  calc 2 ^ t ≤ 2 ^ 39 := Nat.pow_le_pow_right (by decide) h
    _ = 549755813888 := by decide
theorem shr1 (x : Nat) (h : x < 2 ^ 62) : lN x >>> ((1 : Int32).toInt64 &&& 63) = lN (x / 2) := by
  have := pf_shr (a := x) (d := 1) (D := ((1 : Int32).toInt64 &&& 63)) (by decide) h
  simpa using this
theorem and_pow (q t : Nat) : (q * 2 ^ t) &&& 2 ^ t = (q % 2) * 2 ^ t := by
  apply Nat.eq_of_testBit_eq
  intro i
  rw [Nat.testBit_and, Nat.testBit_two_pow]
  by_cases h : t = i
  · subst h
    have e1 : (q * 2 ^ t).testBit t = decide (q % 2 = 1) := by
      rw [Nat.testBit_eq_decide_div_mod_eq, Nat.mul_div_cancel _ (Nat.two_pow_pos t)]
    rw [e1]
    rcases Nat.mod_two_eq_zero_or_one q with h | h
    · simp [h]
    · simp [h, Nat.testBit_two_pow]
  · rcases Nat.mod_two_eq_zero_or_one q with h2 | h2
    · simp [h, h2]
    · simp [h, h2, Nat.testBit_two_pow]
/-- the sign put back -/
def sg (v x : Int64) : Int64 := if 0 ≤ v then x else -x
theorem c128 (v x : Int64) : F_X3_rounded_128 v x = some (sg v x) := by
  unfold F_X3_rounded_128 sg
  simp only [lg_ge]
  by_cases h : 0 ≤ v <;> simp [h]
theorem c121 (v u x : Int64) : F_X3_rounded_121 v u x = some (sg v (x + u)) := by
  unfold F_X3_rounded_121
  exact c128 v (x + u)
theorem c62 {m t : Nat} (v : Int64) (hm : m < 2 ^ 63) (h0 : 0 < t) (ht : t ≤ 39) : F_X3_rounded_62 v (lN m) (nI t) = some (sg v (lN (rN m t))) := by
  have hp : 0 < 2 ^ t := Nat.two_pow_pos t
  have hp39 := pow39 ht
  have hev := pow_ev h0
  have hmod : m % 2 ^ t < 2 ^ t := Nat.mod_lt _ hp
  have hdm : m / 2 ^ t * 2 ^ t + m % 2 ^ t = m := Nat.div_add_mod' m (2 ^ t)
  have e1 : (1 : Int64) <<< ((nI t).toInt64 &&& 63) = lN (2 ^ t) := by
    have := wb_shl 1 (k := t) (by omega)
    rw [Nat.one_mul] at this
    exact this
  have e2 : lN (2 ^ t) - (1 : Int64) = lN (2 ^ t - 1) := lN_sub (a := 2 ^ t) (b := 1) (by omega)
  have e3 : lN m &&& lN (2 ^ t - 1) = lN (m % 2 ^ t) := wb_mask (by omega) (by omega)
  have e4 : lN (2 ^ t) >>> ((1 : Int32).toInt64 &&& 63) = lN (2 ^ t / 2) := shr1 _ (by omega)
  have e5 : lN m - lN (m % 2 ^ t) = lN (m / 2 ^ t * 2 ^ t) := by
    rw [lN_sub (by omega)]
    exact congrArg lN (by omega)
  have e6 : lN (m / 2 ^ t * 2 ^ t) &&& lN (2 ^ t) = lN (m / 2 ^ t % 2 * 2 ^ t) := by
    rw [wb_and (by omega) (by omega), and_pow]
  have hne : ¬ nI t = 0 := by
    rw [← nI_0, nI_eq (by omega) (by omega)]
    omega
  unfold F_X3_rounded_62
  rw [if_neg hne, e1, e2, e3, e4, e5, e6]
  simp only [lg_gt, lg_eq, c121, c128, lN_add, pk_lLT (show 2 ^ t / 2 < 2 ^ 63 by omega) (show m % 2 ^ t < 2 ^ 63 by omega), pk_lEQ (show m % 2 ^ t < 2 ^ 63 by omega) (show 2 ^ t / 2 < 2 ^ 63 by omega)]
  have e7 : (lN (m / 2 ^ t % 2 * 2 ^ t) = 0) = (m / 2 ^ t % 2 = 0) := by
    apply propext
    have h2 : m / 2 ^ t % 2 * 2 ^ t < 2 ^ 63 := by
      rcases Nat.mod_two_eq_zero_or_one (m / 2 ^ t) with h | h <;> rw [h] <;> omega
    constructor
    · intro h
      have h3 := (pk_lEQ h2 (show 0 < 2 ^ 63 by decide)).mp h
      rcases Nat.mod_two_eq_zero_or_one (m / 2 ^ t) with h4 | h4
      · exact h4
      · rw [h4] at h3; omega
    · intro h
      rw [h, Nat.zero_mul]
      rfl
  simp only [e7]
  unfold rN rq
  by_cases h1 : 2 ^ t / 2 < m % 2 ^ t
  · rw [if_pos h1, if_pos (by omega), Nat.add_mul, Nat.one_mul]
  · rw [if_neg h1]
    by_cases h2 : m % 2 ^ t = 2 ^ t / 2
    · rw [if_pos h2]
      rcases Nat.mod_two_eq_zero_or_one (m / 2 ^ t) with h3 | h3
      · rw [if_pos h3, if_neg (by omega), Nat.add_zero]
      · rw [if_neg (by omega), if_pos (by omega), Nat.add_mul, Nat.one_mul]
    · rw [if_neg h2, if_neg (by omega), Nat.add_zero]
theorem c39 {m D : Nat} (v : Int64) (hm : m < 2 ^ 63) (hD : 24 ≤ D) (hD2 : D ≤ 60) : ∀ k n t, t + k = tl m D → k < n → F_X3_rounded_39 n v (lN m) (lN (2 ^ D)) (nI t) = F_X3_rounded_62 v (lN m) (nI (tl m D)) := by
  have htl := tl_le hm hD
  have hDp : 2 ^ D < 2 ^ 63 := wb_lt2 (by omega)
  have sh : ∀ t, t ≤ 39 → lN m >>> ((nI t).toInt64 &&& 63) = lN (m / 2 ^ t) := by
    intro t ht
    rw [wb_c t (by omega)]
    apply Int64.toInt_inj.mp
    have hd : ((lN t).toBitVec.smod 64).toNat = t := by rw [wb_tb, wb_sm t (by omega), BitVec.toNat_ofNat, Nat.mod_eq_of_lt (by omega)]
    have e : (lN m >>> lN t).toInt = (lN m).toInt >>> t := by
      conv => rhs; rw [← hd]
      exact BitVec.toInt_sshiftRight ..
    have hle : m / 2 ^ t ≤ m := Nat.div_le_self _ _
    rw [e, Int.shiftRight_eq_div_pow, pk_lT hm, pk_lT (by omega)]
    rfl
  intro k
  induction k with
  | zero =>
    intro n t ht hn
    obtain ⟨n, rfl⟩ : ∃ q, n = q + 1 := ⟨n - 1, by omega⟩
    have ht2 : t = tl m D := by omega
    unfold F_X3_rounded_39
    have g1 : ¬ (63 : Int32) ≤ nI t := by
      have : (63 : Int32) = nI 63 := rfl
      rw [this, nI_leI (by omega) (by omega)]
      omega
    have g2 : lg_cmp (lN m >>> ((nI t).toInt64 &&& 63)) (lN (2 ^ D)) < 0 := by
      rw [lg_lt, sh t (by omega), pk_lLT (Nat.lt_of_le_of_lt (Nat.div_le_self _ _) hm) hDp, Nat.div_lt_iff_lt_mul (Nat.two_pow_pos t), ← Nat.pow_add, ht2]
      exact tl_hi m D (by omega)
    rw [if_neg g1, if_pos g2, ht2]
  | succ k ih =>
    intro n t ht hn
    obtain ⟨n, rfl⟩ : ∃ q, n = q + 1 := ⟨n - 1, by omega⟩
    unfold F_X3_rounded_39
    have g1 : ¬ (63 : Int32) ≤ nI t := by
      have : (63 : Int32) = nI 63 := rfl
      rw [this, nI_leI (by omega) (by omega)]
      omega
    have g2 : ¬ lg_cmp (lN m >>> ((nI t).toInt64 &&& 63)) (lN (2 ^ D)) < 0 := by
      rw [lg_lt, sh t (by omega), pk_lLT (Nat.lt_of_le_of_lt (Nat.div_le_self _ _) hm) hDp, Nat.div_lt_iff_lt_mul (Nat.two_pow_pos t), ← Nat.pow_add]
      have := tl_lo m D t (by omega) (by omega)
      omega
    rw [if_neg g1, if_neg g2]
    have e : nI t + 1 = nI (t + 1) := nI_1 t
    rw [e]
    exact ih n (t + 1) (by omega) (by omega)
/-- a number rounded to so many digits -/
def rd (D : Nat) (v : Int64) : Int64 := if 0 ≤ v.toInt then lN (rN v.toInt.toNat (tl v.toInt.toNat D)) else if v.toInt = -9223372036854775808 then v else -lN (rN (-v.toInt).toNat (tl (-v.toInt).toNat D))
def rnd (k : Nat) (v : Int64) : Int64 := if k = 6 then rd 24 v else if k = 7 then rd 53 v else v
theorem le0 (v : Int64) : (0 ≤ v) = (0 ≤ v.toInt) := by
  apply propext
  rw [Int64.le_iff_toInt_le]
  simp
theorem lt0 (v : Int64) : (0 < v) = (0 < v.toInt) := by
  apply propext
  rw [Int64.lt_iff_toInt_lt]
  simp
theorem nn_lN {v : Int64} (h : 0 ≤ v.toInt) : v = lN v.toInt.toNat ∧ v.toInt.toNat < 2 ^ 63 := by
  have hx := Int64.toInt_lt v
  have hm : v.toInt.toNat < 2 ^ 63 := by omega
  refine ⟨Int64.toInt_inj.mp ?_, hm⟩
  rw [pk_lT hm]
  omega
theorem ng_lN {v : Int64} (h : v.toInt < 0) (h2 : v.toInt ≠ -9223372036854775808) : -v = lN (-v.toInt).toNat ∧ (-v.toInt).toNat < 2 ^ 63 := by
  have hx := Int64.le_toInt v
  have hm : (-v.toInt).toNat < 2 ^ 63 := by omega
  refine ⟨Int64.toInt_inj.mp ?_, hm⟩
  rw [pk_lT hm, Int64.toInt_neg]
  rw [Int.bmod_eq_of_le (by omega) (by omega)]
  omega
theorem c33 (D : Nat) (hD : 24 ≤ D) (hD2 : D ≤ 60) (v : Int64) : F_X3_rounded_33 v (if 0 < v then v else -v) 1 (nI D) = some (rd D v) := by
  have eD : (1 : Int64) <<< ((nI D).toInt64 &&& 63) = lN (2 ^ D) := by
    have := wb_shl 1 (k := D) (by omega)
    rw [Nat.one_mul] at this
    exact this
  have fin : ∀ m : Nat, m < 2 ^ 63 → (sg v (lN m) = v) → F_X3_rounded_39 1000000 v (lN m) (lN (2 ^ D)) 0 = some (sg v (lN (rN m (tl m D)))) := by
    intro m hm hv
    have htl := tl_le hm hD
    have h1 := c39 v hm hD hD2 (tl m D) 1000000 0 (by omega) (by omega)
    rw [nI_0] at h1
    rw [h1]
    by_cases h0 : tl m D = 0
    · rw [h0, rN_0, hv]
      unfold F_X3_rounded_62
      rw [nI_0, if_pos rfl]
    · exact c62 v hm (by omega) htl
  unfold F_X3_rounded_33
  rw [eD]
  by_cases h : 0 ≤ v.toInt
  · obtain ⟨e1, hm⟩ := nn_lN h
    have e2 : (if 0 < v then v else -v) = lN v.toInt.toNat := by
      by_cases h2 : 0 < v
      · rw [if_pos h2]; exact e1
      · have h3 : v.toInt = 0 := by rw [lt0] at h2; omega
        have h4 : v = 0 := Int64.toInt_inj.mp (by rw [h3]; rfl)
        rw [if_neg h2, h4]
        rfl
    rw [e2, fin _ hm (by unfold sg; rw [if_pos (by rw [le0]; exact h)]; exact e1.symm)]
    unfold sg rd
    rw [if_pos (by rw [le0]; exact h), if_pos h]
  · have h' : v.toInt < 0 := by omega
    have hn : ¬ 0 < v := by rw [lt0]; omega
    have hn2 : ¬ 0 ≤ v := by rw [le0]; omega
    rw [if_neg hn]
    by_cases h2 : v.toInt = -9223372036854775808
    · have h3 : v = Int64.ofInt (-9223372036854775808) := Int64.toInt_inj.mp (by rw [h2]; decide)
      have hr : rd D v = v := by unfold rd; rw [if_neg h, if_pos h2]
      rw [hr]
      obtain ⟨n, hn9⟩ : ∃ n, (1000000 : Nat) = n + 1 := ⟨999999, rfl⟩
      rw [hn9]
      unfold F_X3_rounded_39
      have g1 : ¬ (63 : Int32) ≤ 0 := by decide
      have g2 : lg_cmp ((-v) >>> ((0 : Int32).toInt64 &&& 63)) (lN (2 ^ D)) < 0 := by
        rw [lg_lt, Int64.lt_iff_toInt_lt, pk_lT (wb_lt2 (by omega)), h3]
        have : ((-Int64.ofInt (-9223372036854775808)) >>> ((0 : Int32).toInt64 &&& 63)).toInt = -9223372036854775808 := by decide
        rw [this]
        have := Nat.two_pow_pos D
        omega
      rw [if_neg g1, if_pos g2]
      unfold F_X3_rounded_62
      rw [if_pos rfl]
    · obtain ⟨e1, hm⟩ := ng_lN h' h2
      rw [e1, fin _ hm (by unfold sg; rw [if_neg hn2, ← e1]; simp)]
      unfold sg rd
      rw [if_neg hn2, if_neg h, if_neg h2]
theorem rounded_c (k : Nat) (hk : k ≤ 12) (v : Int64) : F_X3_rounded v (nI k) = some (rnd k v) := by
  unfold F_X3_rounded rnd
  by_cases h6 : k = 6
  · subst h6
    have e : nI 6 = (6 : Int32) := rfl
    rw [if_pos e, if_pos rfl]
    unfold F_X3_rounded_14
    rw [if_pos e]
    exact c33 24 (by decide) (by decide) v
  · have n6 : ¬ nI k = (6 : Int32) := by
      have : (6 : Int32) = nI 6 := rfl
      rw [this, nI_eq (by omega) (by omega)]
      exact h6
    rw [if_neg n6, if_neg h6]
    by_cases h7 : k = 7
    · subst h7
      have e : nI 7 = (7 : Int32) := rfl
      rw [if_pos e, if_pos rfl]
      unfold F_X3_rounded_14
      rw [if_neg n6]
      exact c33 53 (by decide) (by decide) v
    · have n7 : ¬ nI k = (7 : Int32) := by
        have : (7 : Int32) = nI 7 := rfl
        rw [this, nI_eq (by omega) (by omega)]
        exact h7
      rw [if_neg n7, if_neg h7]
theorem r92 (v p q : Int64) (c : Int64) : F_X12_rounded_92 v p q c = some (sg v ((q + c) * p)) := by
  unfold F_X12_rounded_92 sg
  simp only [lg_ge]
  have e : (-(q + c)) * p = -((q + c) * p) := by
    apply Int64.toBitVec_inj.mp
    simp
  by_cases h : 0 ≤ v <;> simp [h, e]
theorem r16 {m D : Nat} (v : Int64) (hm : m < 2 ^ 63) (hD : 24 ≤ D) (hD2 : D ≤ 60) : ∀ k n t, t + k = tl m D → k < n → F_X12_rounded_16 n v (nI D) (lN m) (lN (2 ^ t)) = some (sg v (lN (rN m (tl m D)))) := by
  have htl := tl_le hm hD
  have hDp : 2 ^ D < 2 ^ 63 := wb_lt2 (by omega)
  have eD : (1 : Int64) <<< ((nI D).toInt64 &&& 63) = lN (2 ^ D) := by
    have := wb_shl 1 (k := D) (by omega)
    rw [Nat.one_mul] at this
    exact this
  have nz : ∀ t, t ≤ 39 → ¬ lN (2 ^ t) = 0 := by
    intro t ht h
    have h1 := pow39 ht
    have h2 := Nat.two_pow_pos t
    have h3 := (pk_lEQ (show 2 ^ t < 2 ^ 63 by omega) (show 0 < 2 ^ 63 by decide)).mp h
    omega
  intro k
  induction k with
  | zero =>
    intro n t ht hn
    obtain ⟨n, rfl⟩ : ∃ q, n = q + 1 := ⟨n - 1, by omega⟩
    have ht2 : t = tl m D := by omega
    have h39 : t ≤ 39 := by omega
    have hp39 := pow39 h39
    have hp : 0 < 2 ^ t := Nat.two_pow_pos t
    have hmod : m % 2 ^ t < 2 ^ t := Nat.mod_lt _ hp
    have hdiv : m / 2 ^ t ≤ m := Nat.div_le_self _ _
    unfold F_X12_rounded_16
    rw [if_neg (nz t h39), eD, pk_lRem hm hp (by omega), pk_lDiv hm hp (by omega)]
    have g2 : lg_cmp (lN (m / 2 ^ t)) (lN (2 ^ D)) < 0 := by
      rw [lg_lt, pk_lLT (by omega) hDp, Nat.div_lt_iff_lt_mul hp, ← Nat.pow_add, ht2]
      exact tl_hi m D (by omega)
    have e2 : (2 : Int64) * lN (m % 2 ^ t) = lN (2 * (m % 2 ^ t)) := lN_mul 2 _
    have e3 : lN (m / 2 ^ t) - lN (m / 2 ^ t) / 2 * 2 = lN (m / 2 ^ t % 2) := pk_lRem (b := 2) (by omega) (by decide) (by decide)
    have h20 : ¬ (2 : Int64) = 0 := by decide
    rw [if_pos g2, e2, e3]
    simp only [lg_gt, lg_eq, if_neg h20, pk_lLT (show 2 ^ t < 2 ^ 63 by omega) (show 2 * (m % 2 ^ t) < 2 ^ 63 by omega), pk_lEQ (show 2 * (m % 2 ^ t) < 2 ^ 63 by omega) (show 2 ^ t < 2 ^ 63 by omega)]
    have e7 : (lN (m / 2 ^ t % 2) = 1) = (m / 2 ^ t % 2 = 1) := propext (pk_lEQ (show m / 2 ^ t % 2 < 2 ^ 63 by omega) (show 1 < 2 ^ 63 by decide))
    simp only [e7, F_X12_rounded_87, F_X12_rounded_91, r92]
    have a1 : lN (m / 2 ^ t) + 1 = lN (m / 2 ^ t + 1) := lN_1 _
    have a0 : lN (m / 2 ^ t) + 0 = lN (m / 2 ^ t + 0) := lN_add (m / 2 ^ t) 0
    rw [a1, a0, lN_mul, lN_mul, ← ht2]
    unfold rN rq
    by_cases h1 : 2 ^ t < 2 * (m % 2 ^ t)
    · rw [if_pos h1, if_pos (by omega)]
    · rw [if_neg h1]
      by_cases h2 : 2 * (m % 2 ^ t) = 2 ^ t
      · rw [if_pos h2]
        rcases Nat.mod_two_eq_zero_or_one (m / 2 ^ t) with h3 | h3
        · rw [if_neg (by omega), if_neg (by omega)]
        · rw [if_pos h3, if_pos (by omega)]
      · rw [if_neg h2, if_neg (by omega)]
  | succ k ih =>
    intro n t ht hn
    obtain ⟨n, rfl⟩ : ∃ q, n = q + 1 := ⟨n - 1, by omega⟩
    have h39 : t ≤ 39 := by omega
    have hp39 := pow39 h39
    have hp : 0 < 2 ^ t := Nat.two_pow_pos t
    have hdiv : m / 2 ^ t ≤ m := Nat.div_le_self _ _
    unfold F_X12_rounded_16
    rw [if_neg (nz t h39), eD, pk_lDiv hm hp (by omega)]
    have g2 : ¬ lg_cmp (lN (m / 2 ^ t)) (lN (2 ^ D)) < 0 := by
      rw [lg_lt, pk_lLT (by omega) hDp, Nat.div_lt_iff_lt_mul hp, ← Nat.pow_add]
      have := tl_lo m D t (by omega) (by omega)
      omega
    have e : lN (2 ^ t) * 2 = lN (2 ^ (t + 1)) := by
      rw [Nat.pow_succ]
      exact lN_mul (2 ^ t) 2
    rw [if_neg g2, e]
    exact ih n (t + 1) (by omega) (by omega)
theorem rounded_m (D : Nat) (hD : 24 ≤ D) (hD2 : D ≤ 60) (v : Int64) : F_X12_rounded v (nI D) = some (rd D v) := by
  have eD : (1 : Int64) <<< ((nI D).toInt64 &&& 63) = lN (2 ^ D) := by
    have := wb_shl 1 (k := D) (by omega)
    rw [Nat.one_mul] at this
    exact this
  unfold F_X12_rounded
  simp only [lg_ge, le0, F_X12_rounded_12]
  have one : (1 : Int64) = lN (2 ^ 0) := rfl
  by_cases h : 0 ≤ v.toInt
  · obtain ⟨e1, hm⟩ := nn_lN h
    rw [if_pos h]
    have htl := tl_le hm hD
    have h1 := r16 v hm hD hD2 (tl v.toInt.toNat D) 1000000 0 (by omega) (by omega)
    rw [← e1] at h1
    rw [one, h1]
    unfold sg rd
    rw [if_pos (by rw [le0]; exact h), if_pos h]
  · have h' : v.toInt < 0 := by omega
    have hn2 : ¬ 0 ≤ v := by rw [le0]; omega
    rw [if_neg h]
    by_cases h2 : v.toInt = -9223372036854775808
    · have h3 : v = Int64.ofInt (-9223372036854775808) := Int64.toInt_inj.mp (by rw [h2]; decide)
      have hr : rd D v = v := by unfold rd; rw [if_neg h, if_pos h2]
      rw [hr]
      obtain ⟨n, hn9⟩ : ∃ n, (1000000 : Nat) = n + 1 := ⟨999999, rfl⟩
      rw [hn9]
      unfold F_X12_rounded_16
      have hneg : -v = v := by rw [h3]; decide
      have g0 : ¬ (1 : Int64) = 0 := by decide
      have hd1 : v / 1 = v := by rw [h3]; decide
      have g2 : lg_cmp v (lN (2 ^ D)) < 0 := by
        rw [lg_lt, Int64.lt_iff_toInt_lt, pk_lT (wb_lt2 (by omega)), h2]
        have := Nat.two_pow_pos D
        omega
      have g3 : ¬ 0 < lg_cmp ((2 : Int64) * (v - v * 1)) 1 := by rw [h3]; decide
      have g4 : ¬ lg_cmp ((2 : Int64) * (v - v * 1)) 1 = 0 := by rw [h3]; decide
      rw [hneg, if_neg g0, eD, hd1, if_pos g2, if_neg g3, if_neg g4]
      unfold F_X12_rounded_91
      rw [r92]
      unfold sg
      rw [if_neg hn2, h3]
      decide
    · obtain ⟨e1, hm⟩ := ng_lN h' h2
      have htl := tl_le hm hD
      have h1 := r16 v hm hD hD2 (tl (-v.toInt).toNat D) 1000000 0 (by omega) (by omega)
      rw [← e1] at h1
      rw [one, h1]
      unfold sg rd
      rw [if_neg hn2, if_neg h, if_neg h2]
theorem as_m (k : Nat) (hk : k ≤ 12) (v : Int64) : F_X12_as (nI k) v = some (rnd k v) := by
  unfold F_X12_as rnd
  have r24 := rounded_m 24 (by decide) (by decide) v
  have r53 := rounded_m 53 (by decide) (by decide) v
  have e24 : nI 24 = (24 : Int32) := rfl
  have e53 : nI 53 = (53 : Int32) := rfl
  rw [e24] at r24
  rw [e53] at r53
  have i6 : (nI k = (6 : Int32)) = (k = 6) := nI_eq' (b := 6) (by omega) (by omega)
  have i7 : (nI k = (7 : Int32)) = (k = 7) := nI_eq' (b := 7) (by omega) (by omega)
  simp only [i6, i7, r24, r53, xbP_some]
  by_cases h6 : k = 6
  · rw [if_pos h6, if_pos h6]
  · rw [if_neg h6, if_neg h6]
    by_cases h7 : k = 7
    · rw [if_pos h7, if_pos h7]
    · rw [if_neg h7, if_neg h7]
/-! rounded twice is rounded once -/
theorem rN_div {m t : Nat} (h : m % 2 ^ t = 0) : rN m t = m := by
  have hp := Nat.two_pow_pos t
  have hd := Nat.div_add_mod' m (2 ^ t)
  unfold rN rq
  rw [h, if_neg (by omega), Nat.add_zero]
  omega
theorem rN_idem {m D : Nat} (hD : 0 < D) : rN m (tl m D) % 2 ^ (tl (rN m (tl m D)) D) = 0 := by
  have hi := tl_hi m D hD
  generalize tl m D = t at hi
  have hp := Nat.two_pow_pos t
  have hq : rq m t ≤ 2 ^ D := by
    have h1 : m / 2 ^ t < 2 ^ D := by
      rw [Nat.div_lt_iff_lt_mul hp, ← Nat.pow_add]
      exact hi
    unfold rq
    split <;> omega
  by_cases hlt : rq m t < 2 ^ D
  · have hR : rN m t < 2 ^ (D + t) := by
      unfold rN
      rw [Nat.pow_add]
      exact Nat.mul_lt_mul_of_pos_right hlt hp
    have ht : tl (rN m t) D ≤ t := by
      by_cases h : tl (rN m t) D ≤ t
      · exact h
      · have := tl_lo (rN m t) D t hD (by omega)
        omega
    have hdvd : 2 ^ tl (rN m t) D ∣ 2 ^ t := Nat.pow_dvd_pow 2 ht
    exact Nat.mod_eq_zero_of_dvd (Nat.dvd_trans hdvd ⟨rq m t, by unfold rN; rw [Nat.mul_comm]⟩)
  · have he : rN m t = 2 ^ (D + t) := by
      unfold rN
      rw [show rq m t = 2 ^ D by omega, ← Nat.pow_add]
    have ht : tl (rN m t) D ≤ D + t := by
      by_cases h : tl (rN m t) D ≤ D + t
      · exact h
      · have h2 := tl_lo (rN m t) D (D + t) hD (by omega)
        rw [he] at h2
        have := wb_lt2 (show D + t < D + (D + t) by omega)
        omega
    rw [he] at ht ⊢
    exact Nat.mod_eq_zero_of_dvd (Nat.pow_dvd_pow 2 ht)
theorem rN_le {m D : Nat} (hD : 24 ≤ D) (hm : m < 2 ^ 63) (hD2 : D ≤ 60) : rN m (tl m D) ≤ 2 ^ 63 := by
  have hi := tl_hi m D (by omega)
  have hp := Nat.two_pow_pos (tl m D)
  by_cases h0 : tl m D = 0
  · rw [h0, rN_0]; omega
  · have hlo := tl_lo m D (tl m D - 1) (by omega) (by omega)
    have h1 : D + (tl m D - 1) < 63 := (Nat.pow_lt_pow_iff_right (a := 2) (by decide)).mp (Nat.lt_of_le_of_lt hlo hm)
    have hq : rq m (tl m D) ≤ 2 ^ D := by
      have h1 : m / 2 ^ (tl m D) < 2 ^ D := by
        rw [Nat.div_lt_iff_lt_mul hp, ← Nat.pow_add]
        exact hi
      unfold rq
      split <;> omega
    unfold rN
    calc rq m (tl m D) * 2 ^ (tl m D) ≤ 2 ^ D * 2 ^ (tl m D) := Nat.mul_le_mul_right _ hq
      _ = 2 ^ (D + tl m D) := (Nat.pow_add 2 D (tl m D)).symm
      _ ≤ 2 ^ 63 := Nat.pow_le_pow_right (by decide) (by omega)
theorem rd_min (D : Nat) (v : Int64) (h : v.toInt = -9223372036854775808) : rd D v = v := by
  unfold rd
  rw [if_neg (by omega), if_pos h]
theorem rd_lN {D m : Nat} (hm : m < 2 ^ 63) : rd D (lN m) = lN (rN m (tl m D)) := by
  unfold rd
  rw [pk_lT hm, if_pos (by omega)]
  simp
theorem neg_lN_toInt {m : Nat} (hm : m < 2 ^ 63) : (-lN m).toInt = -(m : Int) := by
  rw [Int64.toInt_neg, pk_lT hm, Int.bmod_eq_of_le (by omega) (by omega)]
theorem rd_neg {D m : Nat} (hm : m < 2 ^ 63) (h0 : 0 < m) : rd D (-lN m) = -lN (rN m (tl m D)) := by
  unfold rd
  rw [neg_lN_toInt hm, if_neg (by omega), if_neg (by omega)]
  simp
theorem rd_idem {D : Nat} (hD : 24 ≤ D) (hD2 : D ≤ 60) (v : Int64) : rd D (rd D v) = rd D v := by
  have key : ∀ m : Nat, m < 2 ^ 63 → rd D (lN (rN m (tl m D))) = lN (rN m (tl m D)) ∧ rd D (-lN (rN m (tl m D))) = -lN (rN m (tl m D)) := by
    intro m hm
    have hle := rN_le hD hm hD2
    have hid := rN_idem (m := m) (D := D) (by omega)
    by_cases h63 : rN m (tl m D) = 2 ^ 63
    · rw [h63]
      exact ⟨rd_min D _ (by decide), rd_min D _ (by decide)⟩
    · have hlt : rN m (tl m D) < 2 ^ 63 := by omega
      refine ⟨by rw [rd_lN hlt, rN_div hid], ?_⟩
      by_cases h0 : rN m (tl m D) = 0
      · rw [h0]
        have e : -lN 0 = lN 0 := by decide
        rw [e, rd_lN (by decide)]
        have : rN 0 (tl 0 D) = 0 := rN_div (by simp)
        rw [this]
      · rw [rd_neg hlt (by omega), rN_div hid]
  by_cases h : 0 ≤ v.toInt
  · obtain ⟨e1, hm⟩ := nn_lN h
    have e2 : rd D v = lN (rN v.toInt.toNat (tl v.toInt.toNat D)) := by
      unfold rd
      rw [if_pos h]
    rw [e2]
    exact (key _ hm).1
  · by_cases h2 : v.toInt = -9223372036854775808
    · rw [rd_min D v h2, rd_min D v h2]
    · obtain ⟨e1, hm⟩ := ng_lN (by omega) h2
      have e2 : rd D v = -lN (rN (-v.toInt).toNat (tl (-v.toInt).toNat D)) := by
        unfold rd
        rw [if_neg h, if_neg h2]
      rw [e2]
      exact (key _ hm).2
theorem rnd_idem (k : Nat) (v : Int64) : rnd k (rnd k v) = rnd k v := by
  unfold rnd
  by_cases h6 : k = 6
  · rw [if_pos h6, if_pos h6]; exact rd_idem (by decide) (by decide) v
  · rw [if_neg h6, if_neg h6]
    by_cases h7 : k = 7
    · rw [if_pos h7, if_pos h7]; exact rd_idem (by decide) (by decide) v
    · rw [if_neg h7, if_neg h7]
theorem rnd_0 (k : Nat) : rnd k 0 = 0 := by
  have e : ∀ D, rd D 0 = 0 := by
    intro D
    have h1 := rd_lN (D := D) (m := 0) (by decide)
    have h2 : rN 0 (tl 0 D) = 0 := rN_div (by simp)
    rw [h2] at h1
    exact h1
  unfold rnd
  rw [e, e]
  by_cases h6 : k = 6
  · rw [if_pos h6]
  · rw [if_neg h6]
    by_cases h7 : k = 7
    · rw [if_pos h7]
    · rw [if_neg h7]
