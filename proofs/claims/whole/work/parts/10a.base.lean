/-! small numbers -/
theorem nI_lt' {a b : Nat} (ha : a < 2 ^ 31) (hb : b < 2 ^ 31) : (nI a < nI b) = (a < b) := propext (nI_ltI ha hb)
theorem nI_le' {a b : Nat} (ha : a < 2 ^ 31) (hb : b < 2 ^ 31) : (nI a ≤ nI b) = (a ≤ b) := propext (nI_leI ha hb)
theorem nI_eq' {a b : Nat} (ha : a < 2 ^ 31) (hb : b < 2 ^ 31) : (nI a = nI b) = (a = b) := propext (nI_eq ha hb)
theorem xok_nI {j N : Nat} (hj : j < 2 ^ 31) : xok (nI j) N = decide (j < N) := by
  simp only [xok]
  rw [nI_toInt hj]
  by_cases h : j < N
  · simp [h]
  · simp [h]
theorem xok_t {j N : Nat} (h : j < N) (hN : N ≤ 10000) : xok (nI j) N = true := by rw [xok_nI (by omega)]; simp [h]
theorem cl_nI {j : Nat} (h : j < 2 ^ 31) : (nI j).toNatClampNeg = j := nI_clamp h
/-- an argument: below, above, or one of those there are -/
theorem ix3 (x : Int32) {n : Nat} (hn : n < 2 ^ 31) : x < 0 ∨ nI n ≤ x ∨ ∃ j : Nat, j < n ∧ x = nI j := pk_ix x hn
theorem lg_lt {x y : Int64} : (lg_cmp x y < 0) = (x < y) := by
  unfold lg_cmp
  by_cases h1 : x > y
  · have h2 : ¬ x < y := fun h => by
      have := Int64.lt_iff_toInt_lt.mp h
      have := Int64.lt_iff_toInt_lt.mp h1
      omega
    simp [h1, h2]
  · by_cases h2 : x = y
    · subst h2
      simp [h1, Int64.lt_irrefl]
    · have h3 : x < y := by
        have a1 : ¬ y.toInt < x.toInt := fun h => h1 (Int64.lt_iff_toInt_lt.mpr h)
        have a2 : ¬ x.toInt = y.toInt := fun h => h2 (Int64.toInt_inj.mp h)
        exact Int64.lt_iff_toInt_lt.mpr (by omega)
      simp [h1, h2, h3]
theorem lg_gt {x y : Int64} : (0 < lg_cmp x y) = (y < x) := by
  unfold lg_cmp
  by_cases h1 : x > y
  · simp [h1]
  · have h1' : ¬ y < x := h1
    by_cases h2 : x = y
    · subst h2
      simp [h1]
    · simp [h1, h2]
theorem lg_eq {x y : Int64} : (lg_cmp x y = 0) = (x = y) := by
  unfold lg_cmp
  by_cases h1 : x > y
  · have h2 : ¬ x = y := fun h => by subst h; exact absurd h1 (Int64.lt_irrefl)
    simp [h1, h2]
  · by_cases h2 : x = y
    · simp [h1, h2]
    · simp [h1, h2]
theorem lg_ge {x y : Int64} : (0 ≤ lg_cmp x y) = (y ≤ x) := by
  have h := @lg_lt x y
  apply propext
  constructor
  · intro h1
    apply Int64.le_iff_toInt_le.mpr
    by_cases h2 : x < y
    · rw [← h] at h2
      have a1 := Int32.lt_iff_toInt_lt.mp h2
      have a2 := Int32.le_iff_toInt_le.mp h1
      omega
    · have a3 : ¬ x.toInt < y.toInt := fun q => h2 (Int64.lt_iff_toInt_lt.mpr q)
      omega
  · intro h1
    apply Int32.le_iff_toInt_le.mpr
    by_cases h2 : lg_cmp x y < 0
    · rw [h] at h2
      have a1 := Int64.lt_iff_toInt_lt.mp h2
      have a2 := Int64.le_iff_toInt_le.mp h1
      omega
    · have a3 : ¬ (lg_cmp x y).toInt < (0 : Int32).toInt := fun q => h2 (Int32.lt_iff_toInt_lt.mpr q)
      omega
theorem lg_le {x y : Int64} : (lg_cmp x y ≤ 0) = (x ≤ y) := by
  have h := @lg_gt x y
  apply propext
  constructor
  · intro h1
    apply Int64.le_iff_toInt_le.mpr
    by_cases h2 : y < x
    · rw [← h] at h2
      have a1 := Int32.lt_iff_toInt_lt.mp h2
      have a2 := Int32.le_iff_toInt_le.mp h1
      omega
    · have a3 : ¬ y.toInt < x.toInt := fun q => h2 (Int64.lt_iff_toInt_lt.mpr q)
      omega
  · intro h1
    apply Int32.le_iff_toInt_le.mpr
    by_cases h2 : 0 < lg_cmp x y
    · rw [h] at h2
      have a1 := Int64.lt_iff_toInt_lt.mp h2
      have a2 := Int64.le_iff_toInt_le.mp h1
      omega
    · have a3 : ¬ (0 : Int32).toInt < (lg_cmp x y).toInt := fun q => h2 (Int32.lt_iff_toInt_lt.mpr q)
      omega
/-- whether a number is within bounds, as 0 or 1 -/
def xbt (c : Prop) (d : Decidable c) : Int32 := if c then 1 else 0
theorem within_eq (x a b : Int32) : F_X11_within x a b = some (if a.toInt ≤ x.toInt ∧ x.toInt ≤ b.toInt then 1 else 0) := by
  unfold F_X11_within
  by_cases h1 : x < a
  · have := Int32.lt_iff_toInt_lt.mp h1
    rw [if_pos h1, if_neg (by omega)]
  · have h1' : ¬ x.toInt < a.toInt := fun q => h1 (Int32.lt_iff_toInt_lt.mpr q)
    rw [if_neg h1]
    by_cases h2 : b < x
    · have := Int32.lt_iff_toInt_lt.mp h2
      rw [if_pos h2, if_neg (by omega)]
    · have h2' : ¬ b.toInt < x.toInt := fun q => h2 (Int32.lt_iff_toInt_lt.mpr q)
      rw [if_neg h2, if_pos (by omega)]
theorem in_eq (x a b : Int64) : F_X12_in x a b = some (if a.toInt ≤ x.toInt ∧ x.toInt ≤ b.toInt then 1 else 0) := by
  unfold F_X12_in
  simp only [lg_lt, lg_gt]
  by_cases h1 : x < a
  · have := Int64.lt_iff_toInt_lt.mp h1
    rw [if_pos h1, if_neg (by omega)]
  · have h1' : ¬ x.toInt < a.toInt := fun q => h1 (Int64.lt_iff_toInt_lt.mpr q)
    rw [if_neg h1]
    by_cases h2 : b < x
    · have := Int64.lt_iff_toInt_lt.mp h2
      rw [if_pos h2, if_neg (by omega)]
    · have h2' : ¬ b.toInt < x.toInt := fun q => h2 (Int64.lt_iff_toInt_lt.mpr q)
      rw [if_neg h2, if_pos (by omega)]
theorem i2l_toInt (x : Int32) : x.toInt64.toInt = x.toInt := by simp
theorem in32 (x a b : Int32) : F_X12_in x.toInt64 a.toInt64 b.toInt64 = some (if a.toInt ≤ x.toInt ∧ x.toInt ≤ b.toInt then 1 else 0) := by
  rw [in_eq, i2l_toInt, i2l_toInt, i2l_toInt]
theorem bit01 (c : Prop) (d : Decidable c) : (if c then (1 : Int32) else 0) = 0 ∨ (if c then (1 : Int32) else 0) = 1 := by
  by_cases h : c <;> simp [h]
theorem xbP_some {α β : Type} {v : α} {K : α → Option β} : xbP (some v) K = K v := rfl
theorem xbI_some {β : Type} {v : Int32} {hi : Nat → Nat → Int32} {hl : Nat → Nat → Int64} {r : xRr} {K : Int32 → (Nat → Nat → Int32) → (Nat → Nat → Int64) → xRr → Option β} : xbI (some (v, hi, hl, r)) K = K v hi hl r := rfl
theorem xbL_some {β : Type} {v : Int64} {hi : Nat → Nat → Int32} {hl : Nat → Nat → Int64} {r : xRr} {K : Int64 → (Nat → Nat → Int32) → (Nat → Nat → Int64) → xRr → Option β} : xbL (some (v, hi, hl, r)) K = K v hi hl r := rfl
theorem xbV_some {β : Type} {hi : Nat → Nat → Int32} {hl : Nat → Nat → Int64} {r : xRr} {K : (Nat → Nat → Int32) → (Nat → Nat → Int64) → xRr → Option β} : xbV (some (hi, hl, r)) K = K hi hl r := rfl
theorem xbO_some {β : Type} {t : Nat} {K : Nat → Option β} : xbO (some t) K = K t := rfl
/-! a row filled from a place on -/
def xfill {α : Type} (f : Nat → Nat → α) (a lo n : Nat) (v : Nat → α) : Nat → Nat → α := fun x j => if x = a ∧ lo ≤ j ∧ j < lo + n then v j else f x j
theorem xfill_0 {α : Type} (f : Nat → Nat → α) (a lo : Nat) (v : Nat → α) : xfill f a lo 0 v = f := by
  funext x j
  have h : ¬ (x = a ∧ lo ≤ j ∧ j < lo + 0) := by omega
  simp only [xfill, if_neg h]
theorem xfill_s {α : Type} (f : Nat → Nat → α) (a lo n : Nat) (v : Nat → α) {w : α} (hw : w = v (lo + n)) : xu (xfill f a lo n v) a (lo + n) w = xfill f a lo (n + 1) v := by
  subst hw
  funext x j
  simp only [xu, xfill]
  by_cases h1 : x = a ∧ j = lo + n
  · rw [if_pos h1, if_pos (by omega), h1.2]
  · rw [if_neg h1]
    by_cases h2 : x = a ∧ lo ≤ j ∧ j < lo + n
    · rw [if_pos h2, if_pos (by omega)]
    · rw [if_neg h2, if_neg (by omega)]
theorem xfill_ne {α : Type} (f : Nat → Nat → α) {a x : Nat} (lo n : Nat) (v : Nat → α) (h : x ≠ a) : xfill f a lo n v x = f x := by
  funext j
  simp [xfill, h]
theorem xfill_in {α : Type} (f : Nat → Nat → α) (a lo n : Nat) (v : Nat → α) {j : Nat} (h1 : lo ≤ j) (h2 : j < lo + n) : xfill f a lo n v a j = v j := by simp [xfill, h1, h2]
theorem xfill_out {α : Type} (f : Nat → Nat → α) (a lo n : Nat) (v : Nat → α) {x j : Nat} (h : x ≠ a ∨ j < lo ∨ lo + n ≤ j) : xfill f a lo n v x j = f x j := by
  have h1 : ¬ (x = a ∧ lo ≤ j ∧ j < lo + n) := by omega
  simp only [xfill, if_neg h1]
theorem xu_at {α : Type} (f : Nat → Nat → α) (a j : Nat) (v : α) : xu f a j v a j = v := by simp [xu]
theorem xu_ne2 {α : Type} (f : Nat → Nat → α) {a j x y : Nat} (v : α) (h : x ≠ a ∨ y ≠ j) : xu f a j v x y = f x y := by
  have h1 : ¬ (x = a ∧ y = j) := by omega
  simp only [xu, if_neg h1]
