/-! where a place of a view lies: down the chain, the top one first -/
def plc (vf vs : Nat → Int) (vc : Nat → Nat) : List Nat → Int → Option Int
  | [], p => some p
  | u :: t, p => if 0 ≤ p ∧ p < (vc u : Int) then plc vf vs vc t (vf u + vs u * p) else none
def encp (o : Option Int) : Int32 := match o with
  | none => -1000
  | some p => Int32.ofInt p
theorem oI_toInt {p : Int} (h : -1000 ≤ p ∧ p ≤ 1000) : (Int32.ofInt p).toInt = p := Int32.toInt_ofInt_of_le (by omega) (by omega)
theorem oI_nat (n : Nat) : Int32.ofInt (n : Int) = nI n := rfl
theorem oI_add (a b : Int) : Int32.ofInt a + Int32.ofInt b = Int32.ofInt (a + b) := (Int32.ofInt_add a b).symm
theorem oI_mul (a b : Int) : Int32.ofInt a * Int32.ofInt b = Int32.ofInt (a * b) := (Int32.ofInt_mul a b).symm
theorem oI_neg {p : Int} (h : -1000 ≤ p ∧ p ≤ 1000) : (Int32.ofInt p < 0) = (p < 0) := by
  apply propext
  rw [Int32.lt_iff_toInt_lt, oI_toInt h]
  rfl
theorem oI_ltn {p : Int} {n : Nat} (h : -1000 ≤ p ∧ p ≤ 1000) (hn : n < 1000) : (Int32.ofInt p < nI n) = (p < (n : Int)) := by
  apply propext
  rw [Int32.lt_iff_toInt_lt, oI_toInt h, nI_toInt (by omega)]
theorem stepB {a b p : Int} (ha : -20 ≤ a ∧ a ≤ 20) (hb : -3 ≤ b ∧ b ≤ 3) (hp : 0 ≤ p ∧ p < 12) : -100 ≤ a + b * p ∧ a + b * p ≤ 100 := by
  rcases (show b = -3 ∨ b = -2 ∨ b = -1 ∨ b = 0 ∨ b = 1 ∨ b = 2 ∨ b = 3 by omega) with rfl | rfl | rfl | rfl | rfl | rfl | rfl <;> omega
section PLACE
variable {hi : Nat → Nat → Int32} {hl : Nat → Nat → Int64} {r : xRr} {nb nv : Nat} {vb : Nat → Nat} {vf vs : Nat → Int} {vc vk : Nat → Nat} {ch : Nat → List Nat} {bo : Nat → Nat}
theorem ch_le (h : IV nb nv vb vf vs vc vk ch bo hi) : ∀ v, v < nv → ∀ x, x ∈ ch v → x ≤ v := by
  intro v
  induction v using Nat.strongRecOn with
  | _ v ih =>
    intro hv x hx
    rcases (h.2.2.2 v hv).2.2.2.2 with ⟨-, e, -⟩ | ⟨u, hu, -, e, -⟩
    · rw [e] at hx
      simp at hx
      omega
    · rw [e] at hx
      rcases List.mem_append.mp hx with hx | hx
      · have := ih u hu (by omega) x hx
        omega
      · simp at hx
        omega
theorem placeBank_c (h : IV nb nv vb vf vs vc vk ch bo hi) {v : Nat} (hv : v < nv) : ∀ k n p, k ≤ (ch v).length → k < n → (-100 ≤ p ∧ p ≤ 100) → F_X8_placeInBank_12 n (nI v) (Int32.ofInt p) (nI k - 1) hi hl r = some (encp (plc vf vs vc ((ch v).take k).reverse p), hi, hl, r) := by
  intro k
  have hnv := h.1
  have hlen := (h.2.2.2 v hv).1.2.2.2.2.1
  induction k with
  | zero =>
    intro n p hk hn hp
    obtain ⟨n, rfl⟩ : ∃ q, n = q + 1 := ⟨n - 1, by omega⟩
    unfold F_X8_placeInBank_12
    rw [if_pos (by decide)]
    rfl
  | succ k ih =>
    intro n p hk hn hp
    obtain ⟨n, rfl⟩ : ∃ q, n = q + 1 := ⟨n - 1, by omega⟩
    obtain ⟨u, hu⟩ : ∃ u, (ch v)[k]? = some u := ⟨(ch v)[k], List.getElem?_eq_getElem (by omega)⟩
    have hu1 : u ≤ v := ch_le h v hv u (List.mem_of_getElem? hu)
    obtain ⟨g1, g2, -, -, -⟩ := h.2.2.2 u (by omega)
    have e10 := (h.2.2.2 v hv).2.2.2.1 k u hu
    have et : ((ch v).take (k + 1)).reverse = u :: ((ch v).take k).reverse := by
      rw [List.take_succ, hu]
      simp
    unfold F_X8_placeInBank_12
    rw [nI_s1 (by omega), if_neg (nI_pos (by omega)), nI_4, nI_add, Nat.mul_comm v 4, if_pos (xok_t (by omega) (by decide)), cl_nI (by omega), e10, if_pos (xok_t (by omega) (by decide)), cl_nI (by omega), g2.1, g2.2.2.1, g2.2.2.2.2.1, et]
    simp only [oI_neg (show -1000 ≤ p ∧ p ≤ 1000 by omega), oI_ltn (show -1000 ≤ p ∧ p ≤ 1000 by omega) (show vc u < 1000 by omega), plc]
    by_cases c1 : p < 0
    · rw [if_pos c1, if_neg (by omega)]
      rfl
    · rw [if_neg c1]
      by_cases c2 : p < (vc u : Int)
      · rw [if_pos c2, if_pos ⟨by omega, c2⟩, oI_mul, oI_add]
        have := ih n (vf u + vs u * p) (by omega) (by omega) (stepB g1.2.2.1 g1.2.2.2.1 (by omega))
        rw [show nI k + (-1 : Int32) = nI k - 1 from (Int32.sub_eq_add_neg _ _).symm, this]
      · rw [if_neg c2, if_neg (by omega)]
        rfl
theorem place_c (h : IV nb nv vb vf vs vc vk ch bo hi) {v : Nat} (hv : v < nv) {p : Int} (hp : -100 ≤ p ∧ p ≤ 100) : F_X8_placeInBank (nI v) (Int32.ofInt p) hi hl r = some (encp (plc vf vs vc (ch v).reverse p), hi, hl, r) := by
  have hnv := h.1
  have hlen := (h.2.2.2 v hv).1.2.2.2.2.1
  have k1 := placeBank_c (hl := hl) (r := r) h hv (ch v).length 1000000 p (Nat.le_refl _) (by omega) hp
  rw [List.take_length] at k1
  unfold F_X8_placeInBank
  rw [if_pos (xok_t (by omega) (by decide)), cl_nI (by omega), (h.2.2.2 v hv).2.2.1.1]
  exact k1
theorem place_m (h : IV nb nv vb vf vs vc vk ch bo hi) (hnb : nb ≤ 6) : ∀ v n p, v < nv → v < n → (-100 ≤ p ∧ p ≤ 100) → F_X12_placeIn_5 n (nI v) (Int32.ofInt p) hi hl r = some (encp (plc vf vs vc (ch v).reverse p), hi, hl, r) := by
  intro v
  have hnv := h.1
  induction v using Nat.strongRecOn with
  | _ v ih =>
    intro n p hv hn hp
    obtain ⟨n, rfl⟩ : ∃ q, n = q + 1 := ⟨n - 1, by omega⟩
    obtain ⟨g1, g2, g3, -, g5⟩ := h.2.2.2 v hv
    have ein : F_X12_in (Int32.ofInt p).toInt64 0 (nI (vc v) - 1).toInt64 = some (if 0 ≤ p ∧ p < (vc v : Int) then 1 else 0) := by
      rw [inN _ (by omega), oI_toInt (by omega)]
      by_cases c : 0 ≤ p ∧ p < (vc v : Int)
      · rw [if_pos c, if_pos (by omega)]
      · rw [if_neg c, if_neg (by omega)]
    unfold F_X12_placeIn_5
    rw [if_pos (xok_t (by omega) (by decide)), cl_nI (by omega), g2.2.2.2.2.2.1, ein, xbP_some, g2.2.1, g2.2.2.2.1, oI_mul, oI_add, g3.2.2.2]
    by_cases c : 0 ≤ p ∧ p < (vc v : Int)
    · rw [if_pos c, if_neg (by decide)]
      rcases g5 with ⟨e1, e2, -⟩ | ⟨u, hu, e1, e2, -⟩
      · have n10 : ¬ (10 : Int32) ≤ nI (vb v) := by rw [show (10 : Int32) = nI 10 from rfl, nI_leI (by decide) (by omega)]; omega
        rw [if_neg n10, e2]
        simp [plc, c, encp]
      · have n10 : (10 : Int32) ≤ nI (vb v) := by rw [show (10 : Int32) = nI 10 from rfl, nI_leI (by decide) (by omega)]; omega
        have es : nI (vb v) - 10 = nI u := by
          rw [e1, Nat.add_comm, ← nI_add]
          show nI u + nI 10 - 10 = nI u
          rw [show nI 10 = (10 : Int32) from rfl]
          simp
        rw [if_pos n10, es, ih u hu n _ (by omega) (by omega) (stepB g1.2.2.1 g1.2.2.2.1 (by omega)), e2]
        simp only [List.reverse_append, List.reverse_cons, List.reverse_nil, List.nil_append, List.cons_append, plc, if_pos c]
    · rw [if_neg c, if_pos rfl]
      rcases g5 with ⟨e1, e2, -⟩ | ⟨u, hu, e1, e2, -⟩
      · rw [e2]
        simp [plc, c, encp]
      · rw [e2]
        simp only [List.reverse_append, List.reverse_cons, List.reverse_nil, List.nil_append, List.cons_append, plc, if_neg c]
        rfl
theorem bankOf_m (h : IV nb nv vb vf vs vc vk ch bo hi) (hnb : nb ≤ 6) : ∀ v n, v < nv → v < n → F_X12_bankOf_2 n (nI v) hi hl r = some (nI (bo v), hi, hl, r) := by
  intro v
  have hnv := h.1
  induction v using Nat.strongRecOn with
  | _ v ih =>
    intro n hv hn
    obtain ⟨n, rfl⟩ : ∃ q, n = q + 1 := ⟨n - 1, by omega⟩
    obtain ⟨g1, g2, g3, -, g5⟩ := h.2.2.2 v hv
    unfold F_X12_bankOf_2
    rw [if_pos (xok_t (by omega) (by decide)), cl_nI (by omega), g3.2.2.2]
    rcases g5 with ⟨e1, e2, e3⟩ | ⟨u, hu, e1, e2, e3⟩
    · have n9 : nI (vb v) ≤ (9 : Int32) := by rw [show (9 : Int32) = nI 9 from rfl, nI_leI (by omega) (by decide)]; omega
      rw [if_pos n9, e3]
    · have n9 : ¬ nI (vb v) ≤ (9 : Int32) := by rw [show (9 : Int32) = nI 9 from rfl, nI_leI (by omega) (by decide)]; omega
      have es : nI (vb v) - 10 = nI u := by
        rw [e1, Nat.add_comm, ← nI_add]
        show nI u + nI 10 - 10 = nI u
        rw [show nI 10 = (10 : Int32) from rfl]
        simp
      rw [if_neg n9, es, ih u hu n (by omega) (by omega), e3]
/-- the cell that a view's place is, if there is one -/
def clo (vf vs : Nat → Int) (vc : Nat → Nat) (ch : Nat → List Nat) (bo bz : Nat → Nat) (v : Nat) (p : Int) : Option Nat :=
  match plc vf vs vc (ch v).reverse p with
  | none => none
  | some x => if 0 ≤ x ∧ x < (bz (bo v) : Int) then some (12 * bo v + x.toNat) else none
theorem clo_n {bz : Nat → Nat} {v : Nat} {p : Int} (e : plc vf vs vc (ch v).reverse p = none) : clo vf vs vc ch bo bz v p = none := by
  unfold clo
  rw [e]
theorem clo_s {bz : Nat → Nat} {v : Nat} {p x : Int} (e : plc vf vs vc (ch v).reverse p = some x) : clo vf vs vc ch bo bz v p = if 0 ≤ x ∧ x < (bz (bo v) : Int) then some (12 * bo v + x.toNat) else none := by
  unfold clo
  rw [e]
theorem plc_B (h : IV nb nv vb vf vs vc vk ch bo hi) : ∀ (L : List Nat) (p x : Int), (∀ u, u ∈ L → u < nv) → (-100 ≤ p ∧ p ≤ 100) → plc vf vs vc L p = some x → -100 ≤ x ∧ x ≤ 100 := by
  intro L
  induction L with
  | nil =>
    intro p x _ hp hx
    simp only [plc] at hx
    obtain rfl := Option.some.inj hx
    exact hp
  | cons u t ih =>
    intro p x hL hp hx
    simp only [plc] at hx
    obtain ⟨g1, -⟩ := h.2.2.2 u (hL u (by simp))
    by_cases c : 0 ≤ p ∧ p < (vc u : Int)
    · rw [if_pos c] at hx
      exact ih _ x (fun w hw => hL w (by simp [hw])) (stepB g1.2.2.1 g1.2.2.2.1 (by omega)) hx
    · rw [if_neg c] at hx
      exact absurd hx (by simp)
theorem neTh {x : Int} (hx : -100 ≤ x ∧ x ≤ 100) : ¬ Int32.ofInt x = (-1000 : Int32) := by
  intro e
  have := congrArg Int32.toInt e
  rw [oI_toInt (by omega)] at this
  have m : (-1000 : Int32).toInt = -1000 := by decide +kernel
  rw [m] at this
  omega
variable {bk bz ck : Nat → Nat} {cn : Nat → Int64}
theorem cellAt_c (h1 : IB nb bk bz ck cn hi hl) (h : IV nb nv vb vf vs vc vk ch bo hi) {v : Nat} (hv : v < nv) {p : Int} (hp : -100 ≤ p ∧ p ≤ 100) : F_X8_cellAt (nI v) (Int32.ofInt p) hi hl r = some ((match clo vf vs vc ch bo bz v p with | none => -1 | some k => nI k), hi, hl, r) := by
  have hnv := h.1
  have hnb := h1.1
  obtain ⟨g1, g2, g3, -, -⟩ := h.2.2.2 v hv
  have hbo := g1.2.2.2.2.2
  obtain ⟨b1, b2, b3, b4, b5, b6, b7⟩ := h1.2.2.2.1 _ hbo
  have m : encp none = (-1000 : Int32) := rfl
  unfold F_X8_cellAt
  rw [place_c h hv hp, xbI_some]
  cases e : plc vf vs vc (ch v).reverse p with
  | none => rw [show encp none = (-1000 : Int32) from rfl, if_pos rfl, clo_n e]
  | some x =>
    have hx := plc_B h _ _ _ (fun u hu => by have := ch_le h v hv u (by simpa using hu); omega) hp e
    rw [show encp (some x) = Int32.ofInt x from rfl, if_neg (neTh hx), if_pos (xok_t (by omega) (by decide)), cl_nI (by omega), g3.2.2.1, hasCell_c (by omega) b2 b6, xbI_some, oI_toInt (by omega), clo_s e]
    by_cases c : 0 ≤ x ∧ x < (bz (bo v) : Int)
    · rw [if_pos (show 0 ≤ x ∧ x ≤ (bz (bo v) : Int) - 1 by omega), if_neg (by decide), if_pos c, g3.2.2.1]
      simp only
      rw [nI_mul12, show Int32.ofInt x = nI x.toNat by rw [← oI_nat, Int.toNat_of_nonneg c.1], nI_add, Nat.mul_comm]
    · rw [if_neg (show ¬ (0 ≤ x ∧ x ≤ (bz (bo v) : Int) - 1) by omega), if_pos rfl, if_neg c]
theorem cellAt_m (h1 : IB nb bk bz ck cn hi hl) (h : IV nb nv vb vf vs vc vk ch bo hi) {v : Nat} (hv : v < nv) {p : Int} (hp : -100 ≤ p ∧ p ≤ 100) : F_X12_cellAt (nI v) (Int32.ofInt p) hi hl r = some ((match clo vf vs vc ch bo bz v p with | none => -1000 | some k => nI k), hi, hl, r) := by
  have hnv := h.1
  have hnb := h1.1
  obtain ⟨g1, g2, g3, -, -⟩ := h.2.2.2 v hv
  have hbo := g1.2.2.2.2.2
  obtain ⟨b1, b2, b3, b4, b5, b6, b7⟩ := h1.2.2.2.1 _ hbo
  unfold F_X12_cellAt F_X12_placeIn F_X12_bankOf
  rw [place_m h hnb v 1000000 p hv (by omega) hp, xbI_some, bankOf_m h hnb v 1000000 hv (by omega), xbI_some]
  cases e : plc vf vs vc (ch v).reverse p with
  | none => rw [show encp none = (-1000 : Int32) from rfl, if_pos rfl, clo_n e]
  | some x =>
    have hx := plc_B h _ _ _ (fun u hu => by have := ch_le h v hv u (by simpa using hu); omega) hp e
    rw [show encp (some x) = Int32.ofInt x from rfl, if_neg (neTh hx), isCell_m (by omega) b2 b7, xbI_some, oI_toInt (by omega), clo_s e]
    by_cases c : 0 ≤ x ∧ x < (bz (bo v) : Int)
    · rw [if_pos (show 0 ≤ x ∧ x ≤ (bz (bo v) : Int) - 1 by omega), if_neg (by decide), if_pos c]
      simp only
      rw [nI_12mul, show Int32.ofInt x = nI x.toNat by rw [← oI_nat, Int.toNat_of_nonneg c.1], nI_add]
    · rw [if_neg (show ¬ (0 ≤ x ∧ x ≤ (bz (bo v) : Int) - 1) by omega), if_pos rfl, if_neg c]
end PLACE
