/-! lines without turns; waves -/
def LB (nv ln : Nat) (lp : Nat → Nat) : Prop := ∀ i, i < ln → lp (5 * i) ≤ 6 ∧ (lp (5 * i) < 5 → lp (5 * i + 1) < nv ∧ lp (5 * i + 3) < nv ∧ lp (5 * i + 2) ≤ 13 ∧ lp (5 * i + 4) ≤ 13) ∧ (lp (5 * i) = 5 → lp (5 * i + 1) ≤ 9 ∧ lp (5 * i + 2) = 0 ∧ lp (5 * i + 3) = 0 ∧ lp (5 * i + 4) = 0) ∧ (lp (5 * i) = 6 → 0 < opn lp i ∧ lp (5 * i + 1) = 0 ∧ lp (5 * i + 2) = 0 ∧ lp (5 * i + 3) = 0 ∧ lp (5 * i + 4) = 0)
/-- the reference's lines alone -/
def ILm (nv ln : Nat) (lp : Nat → Nat) (hi : Nat → Nat → Int32) : Prop := ln ≤ 16 ∧ hi 90 22 = nI ln ∧ (∀ k, k < 5 * ln → hi 107 k = nI (lp k)) ∧ LB nv ln lp
theorem IL.m {nv ln : Nat} {lp : Nat → Nat} {hi : Nat → Nat → Int32} (h : IL nv ln lp hi) : ILm nv ln lp hi := ⟨h.1, h.2.2.1, fun k hk => (h.2.2.2.2.1 k hk).2, h.2.2.2.2.2.1⟩
theorem ILm.sc {nv ln : Nat} {lp : Nat → Nat} {hi hi' : Nat → Nat → Int32} (h : ILm nv ln lp hi) (a : scI hi hi') : ILm nv ln lp hi' := ⟨h.1, by rw [a.2 22 (by decide)]; exact h.2.1, by rw [a.row (a := 107)]; exact h.2.2.1, h.2.2.2⟩
theorem lp_B {nv ln : Nat} {lp : Nat → Nat} (h : LB nv ln lp) (hnv : nv ≤ 8) {i : Nat} (hi9 : i < ln) : lp (5 * i) ≤ 6 ∧ lp (5 * i + 1) ≤ 9 ∧ lp (5 * i + 2) ≤ 13 ∧ lp (5 * i + 3) ≤ 9 ∧ lp (5 * i + 4) ≤ 13 := by
  obtain ⟨g1, g2, g3, g4⟩ := h i hi9
  rcases (show lp (5 * i) < 5 ∨ lp (5 * i) = 5 ∨ lp (5 * i) = 6 by omega) with c | c | c
  · have := g2 c; omega
  · have := g3 c; omega
  · have := g4 c; omega
def plnF (lp : Nat → Nat) (ln k : Nat) : Prop := ∀ i, k ≤ i → i < ln → lp (5 * i) < 5 ∧ lp (5 * i + 2) < 12 ∧ lp (5 * i + 4) < 12
theorem plnF_s {lp : Nat → Nat} {ln k : Nat} : k < ln → (plnF lp ln k ↔ ((lp (5 * k) < 5 ∧ lp (5 * k + 2) < 12 ∧ lp (5 * k + 4) < 12) ∧ plnF lp ln (k + 1))) := by
  intro hk
  constructor
  · intro h
    exact ⟨h k (Nat.le_refl _) hk, fun i h1 h2 => h i (by omega) h2⟩
  · rintro ⟨h1, h2⟩ i h3 h4
    by_cases e : i = k
    · rw [e]; exact h1
    · exact h2 i (by omega) h4
section PLAIN
variable {hi : Nat → Nat → Int32} {hl : Nat → Nat → Int64} {r : xRr} {nv ln : Nat} {lp : Nat → Nat}
theorem turn_c (h : IL nv ln lp hi) (hnv : nv ≤ 8) : ∀ k n i, i + k = ln → k < n → F_X4_turnAnywhere_2 n (nI i) hi hl r = some (b1 (¬ plnF lp ln i), hi, hl, r) := by
  have h16 := h.1
  intro k
  induction k with
  | zero =>
    intro n i hik hn
    obtain ⟨n, rfl⟩ : ∃ q, n = q + 1 := ⟨n - 1, by omega⟩
    unfold F_X4_turnAnywhere_2
    rw [h.2.1, if_pos ((nI_leI (by omega) (by omega)).mpr (by omega)), b1_f (fun q => q (fun j h1 h2 => by omega))]
  | succ k ih =>
    intro n i hik hn
    obtain ⟨n, rfl⟩ : ∃ q, n = q + 1 := ⟨n - 1, by omega⟩
    have g : ¬ nI ln ≤ nI i := by rw [nI_leI (by omega) (by omega)]; omega
    obtain ⟨c0, c1, c2, c3, c4⟩ := lp_B h.2.2.2.2.2.1 hnv (i := i) (by omega)
    have k0 := part_c (hl := hl) (r := r) h.2.2.2.2.1 h16 (i := i) (j := 0) (by omega) (by omega)
    have k2 := part_c (hl := hl) (r := r) h.2.2.2.2.1 h16 (i := i) (j := 2) (by omega) (by omega)
    have k4 := part_c (hl := hl) (r := r) h.2.2.2.2.1 h16 (i := i) (j := 4) (by omega) (by omega)
    rw [show nI 0 = (0 : Int32) from rfl] at k0
    rw [show nI 2 = (2 : Int32) from rfl] at k2
    rw [show nI 4 = (4 : Int32) from rfl] at k4
    have e0 : ((5 : Int32) ≤ nI (lp (5 * i + 0))) = (5 ≤ lp (5 * i)) := nI_le' (a := 5) (by decide) (by show lp (5 * i) < _; omega)
    have e2 : ((12 : Int32) ≤ nI (lp (5 * i + 2))) = (12 ≤ lp (5 * i + 2)) := nI_le' (a := 12) (by decide) (by omega)
    have e4 : (nI (lp (5 * i + 4)) < (12 : Int32)) = (lp (5 * i + 4) < 12) := nI_lt' (b := 12) (by omega) (by decide)
    unfold F_X4_turnAnywhere_2
    rw [h.2.1, if_neg g, k0, xbI_some, k2, xbI_some, k4, xbI_some, show nI i + 1 = nI (i + 1) from nI_1 i, ih n (i + 1) (by omega) (by omega)]
    simp only [e0, e2, e4]
    have ps := plnF_s (lp := lp) (ln := ln) (k := i) (by omega)
    by_cases d0 : 5 ≤ lp (5 * i)
    · rw [if_pos d0, b1_t (fun q => by have := (ps.mp q).1; omega)]
    · rw [if_neg d0]
      by_cases d2 : 12 ≤ lp (5 * i + 2)
      · rw [if_pos d2, b1_t (fun q => by have := (ps.mp q).1; omega)]
      · rw [if_neg d2]
        by_cases d4 : lp (5 * i + 4) < 12
        · rw [if_pos d4]
          congr 2
          exact b1_c ⟨fun q z => q (ps.mp z).2, fun q z => q (ps.mpr ⟨by omega, z⟩)⟩
        · rw [if_neg d4, b1_t (fun q => by have := (ps.mp q).1; omega)]
theorem plain_m (h : ILm nv ln lp hi) (hnv : nv ≤ 8) : ∀ k n i P, i + k = ln → k < n → F_X12_isPlain_4 n (b1 P) (nI i) hi hl r = some (b1 (P ∧ plnF lp ln i), hi, hl, r) := by
  have h16 := h.1
  intro k
  induction k with
  | zero =>
    intro n i P hik hn
    obtain ⟨n, rfl⟩ : ∃ q, n = q + 1 := ⟨n - 1, by omega⟩
    unfold F_X12_isPlain_4
    rw [h.2.1, if_pos ((nI_leI (by omega) (by omega)).mpr (by omega)), if_pos (by
      by_cases c : P
      · exact Or.inr (b1_t c)
      · exact Or.inl (b1_f c))]
    congr 2
    exact b1_c ⟨fun q => ⟨q, fun j h1 h2 => by omega⟩, fun q => q.1⟩
  | succ k ih =>
    intro n i P hik hn
    obtain ⟨n, rfl⟩ : ∃ q, n = q + 1 := ⟨n - 1, by omega⟩
    have g : ¬ nI ln ≤ nI i := by rw [nI_leI (by omega) (by omega)]; omega
    obtain ⟨c0, c1, c2, c3, c4⟩ := lp_B h.2.2.2 hnv (i := i) (by omega)
    have q0 := h.2.2.1 (5 * i) (by omega)
    have q2 := h.2.2.1 (5 * i + 2) (by omega)
    have q4 := h.2.2.1 (5 * i + 4) (by omega)
    have e0 : ((5 : Int32) ≤ nI (lp (5 * i))) = (5 ≤ lp (5 * i)) := nI_le' (a := 5) (by decide) (by omega)
    have e2 : ((12 : Int32) ≤ nI (lp (5 * i + 2))) = (12 ≤ lp (5 * i + 2)) := nI_le' (a := 12) (by decide) (by omega)
    have e4 : ((12 : Int32) ≤ nI (lp (5 * i + 4))) = (12 ≤ lp (5 * i + 4)) := nI_le' (a := 12) (by decide) (by omega)
    have ps := plnF_s (lp := lp) (ln := ln) (k := i) (by omega)
    have t1 : (1 : Int32) = b1 True := (b1_t trivial).symm
    have t0 : (0 : Int32) = b1 False := (b1_f id).symm
    have no : ¬ (P ∧ plnF lp ln i) → F_X12_isPlain_4 n 0 (nI (i + 1)) hi hl r = some (b1 (P ∧ plnF lp ln i), hi, hl, r) := fun q => by
      rw [t0, ih n (i + 1) False (by omega) (by omega), b1_f q, b1_f (fun z => z.1)]
    unfold F_X12_isPlain_4 F_X12_isPlain_62 F_X12_isPlain_63
    rw [h.2.1, if_neg g, nI_5mul, show nI (5 * i) + 2 = nI (5 * i + 2) from nI_add _ 2, show nI (5 * i) + 4 = nI (5 * i + 4) from nI_add _ 4, if_pos (xok_t (by omega) (by decide)), if_pos (xok_t (by omega) (by decide)), if_pos (xok_t (by omega) (by decide)), cl_nI (by omega), cl_nI (by omega), cl_nI (by omega), q0, q2, q4, show nI i + 1 = nI (i + 1) from nI_1 i]
    simp only [e0, e2, e4]
    by_cases cP : P
    · rw [b1_t cP, if_neg (by decide)]
      by_cases d0 : 5 ≤ lp (5 * i)
      · rw [if_pos d0, no (fun q => by have := (ps.mp q.2).1; omega)]
      · rw [if_neg d0]
        by_cases d2 : 12 ≤ lp (5 * i + 2)
        · rw [if_pos d2, no (fun q => by have := (ps.mp q.2).1; omega)]
        · rw [if_neg d2]
          by_cases d4 : 12 ≤ lp (5 * i + 4)
          · rw [if_pos d4, no (fun q => by have := (ps.mp q.2).1; omega)]
          · rw [if_neg d4, t1, ih n (i + 1) True (by omega) (by omega)]
            congr 2
            exact b1_c ⟨fun q => ⟨cP, ps.mpr ⟨by omega, q.2⟩⟩, fun q => ⟨trivial, (ps.mp q.2).2⟩⟩
    · rw [b1_f cP, if_pos rfl, no (fun q => cP q.1)]
end PLAIN
/-! clashes -/
def tch (cA cB : Nat → Option Nat) (k : Nat) (c : Option Nat) : Bool := c.isSome && (decide (cA k = c) || decide (cB k = c))
def chg (lp : Nat → Nat) (cA cB : Nat → Option Nat) (i o : Nat) : Bool := tch cA cB o (cB i) || (decide (lp (5 * i) = 4) && tch cA cB o (cA i))
def clsh (lp : Nat → Nat) (cA cB : Nat → Option Nat) (j k : Nat) : Bool := chg lp cA cB j k || chg lp cA cB k j
def bI (b : Bool) : Int32 := if b = true then 1 else 0
theorem bI_z (b : Bool) : (bI b = 0) = (b = false) := by cases b <;> decide
def wm (cl : Nat → Nat → Bool) (w : Nat → Nat) (k : Nat) : Nat → Nat
  | 0 => 0
  | j + 1 => if cl j k = true then max (wm cl w k j) (w j + 1) else wm cl w k j
theorem wm_ext {cl : Nat → Nat → Bool} {w w' : Nat → Nat} {k : Nat} : ∀ j, (∀ i, i < j → w i = w' i) → wm cl w k j = wm cl w' k j := by
  intro j
  induction j with
  | zero => intro _; rfl
  | succ j ih =>
    intro h
    simp only [wm]
    rw [ih (fun i hi9 => h i (by omega)), h j (by omega)]
def isW (cl : Nat → Nat → Bool) (w : Nat → Nat) (k : Nat) : Prop := ∀ i, i < k → w i = wm cl w i i
theorem isW_u {cl : Nat → Nat → Bool} {w w' : Nat → Nat} {k : Nat} (h : isW cl w k) (h' : isW cl w' k) : ∀ i, i < k → w i = w' i := by
  intro i
  induction i using Nat.strongRecOn with
  | _ i ih =>
    intro hi9
    rw [h i hi9, h' i hi9]
    exact wm_ext i (fun j hj => ih j hj (by omega))
theorem wm_le {cl : Nat → Nat → Bool} {w : Nat → Nat} {k : Nat} : ∀ j, (∀ i, i < j → w i ≤ i) → wm cl w k j ≤ j := by
  intro j
  induction j with
  | zero => intro _; exact Nat.le_refl _
  | succ j ih =>
    intro h
    simp only [wm]
    have h1 := ih (fun i hi9 => h i (by omega))
    have h2 := h j (by omega)
    by_cases c : cl j k = true
    · rw [if_pos c]; omega
    · rw [if_neg c]; omega
theorem isW_le {cl : Nat → Nat → Bool} {w : Nat → Nat} {k : Nat} (h : isW cl w k) : ∀ i, i < k → w i ≤ i := by
  intro i
  induction i using Nat.strongRecOn with
  | _ i ih =>
    intro hi9
    rw [h i hi9]
    exact wm_le i (fun j hj => ih j hj (by omega))
theorem isW_s {cl : Nat → Nat → Bool} {w : Nat → Nat} {k : Nat} (h : isW cl w k) : isW cl (fun i => if i = k then wm cl w k k else w i) (k + 1) := by
  intro i hi9
  have e : ∀ m, m ≤ k → wm cl (fun i => if i = k then wm cl w k k else w i) m m = wm cl w m m := fun m hm => wm_ext m (fun j hj => if_neg (by omega))
  rw [e i (by omega)]
  by_cases c : i = k
  · subst c
    simp only [if_true]
  · simp only [if_neg c]
    exact h i (by omega)
theorem encc_eq {a b : Option Nat} (ha : ∀ c, a = some c → c < 72) (hb : ∀ c, b = some c → c < 72) : (encc a = encc b) = (a = b) := by
  apply propext
  cases a with
  | none =>
    cases b with
    | none => exact ⟨fun _ => rfl, fun _ => rfl⟩
    | some y => exact ⟨fun q => absurd q (m1n (hb y rfl)), fun q => absurd q (by simp)⟩
  | some x =>
    cases b with
    | none => exact ⟨fun q => absurd q.symm (m1n (ha x rfl)), fun q => absurd q (by simp)⟩
    | some y =>
      have := ha x rfl
      have := hb y rfl
      show (nI x = nI y) ↔ _
      rw [nI_eq (by omega) (by omega)]
      exact ⟨fun q => by rw [q], fun q => Option.some.inj q⟩
section TOUCH
variable {hi : Nat → Nat → Int32} {hl : Nat → Nat → Int64} {r : xRr} {cA cB : Nat → Option Nat} {lp : Nat → Nat}
theorem touches_c {k : Nat} {c : Option Nat} (hk : k < 16) (e1 : hi 37 k = encc (cA k)) (e2 : hi 38 k = encc (cB k)) (hA : ∀ x, cA k = some x → x < 72) (hB : ∀ x, cB k = some x → x < 72) (hc : ∀ x, c = some x → x < 72) : F_X10_touches (nI k) (encc c) hi hl r = some (bI (tch cA cB k c), hi, hl, r) := by
  have z1 := encc_eq hA hc
  have z2 := encc_eq hB hc
  unfold F_X10_touches F_X10_touches_25 tch
  cases c with
  | none => rw [show encc none = (-1 : Int32) from rfl, if_pos rfl]; rfl
  | some x =>
    have n1 : ¬ encc (some x) = (-1 : Int32) := fun q => m1n (hc x rfl) q.symm
    rw [if_neg n1, if_pos (xok_t hk (by decide)), cl_nI (by omega), e1, e2]
    simp only [z1, z2, Option.isSome_some, Bool.true_and]
    by_cases d1 : cA k = some x
    · rw [if_pos d1, decide_eq_true d1, Bool.true_or]; rfl
    · rw [if_neg d1, decide_eq_false d1, Bool.false_or]
      by_cases d2 : cB k = some x
      · rw [if_pos d2, decide_eq_true d2]; rfl
      · rw [if_neg d2, decide_eq_false d2]; rfl
theorem changes_c {i o ln : Nat} (hln : ln ≤ 16) (hL : ∀ k, k < 5 * ln → hi 31 k = nI (lp k) ∧ hi 107 k = nI (lp k)) (hi9 : i < ln) (ho : o < ln) (h6 : lp (5 * i) ≤ 6) (eA : ∀ k, k = i ∨ k = o → hi 37 k = encc (cA k) ∧ hi 38 k = encc (cB k)) (hA : ∀ k x, cA k = some x → x < 72) (hB : ∀ k x, cB k = some x → x < 72) : F_X10_changes (nI i) (nI o) hi hl r = some (bI (chg lp cA cB i o), hi, hl, r) := by
  have k0 := part_c (hl := hl) (r := r) hL hln (i := i) (j := 0) hi9 (by omega)
  rw [show nI 0 = (0 : Int32) from rfl] at k0
  have e4 : (nI (lp (5 * i + 0)) = (4 : Int32)) = (lp (5 * i) = 4) := nI_eq' (b := 4) (by show lp (5 * i) < _; omega) (by decide)
  have t1 := touches_c (hl := hl) (r := r) (c := cB i) (show o < 16 by omega) (eA o (Or.inr rfl)).1 (eA o (Or.inr rfl)).2 (hA o) (hB o) (hB i)
  have t2 := touches_c (hl := hl) (r := r) (c := cA i) (show o < 16 by omega) (eA o (Or.inr rfl)).1 (eA o (Or.inr rfl)).2 (hA o) (hB o) (hA i)
  unfold F_X10_changes F_X10_changes_41 chg
  rw [if_pos (xok_t (by omega) (by decide)), cl_nI (by omega), (eA i (Or.inl rfl)).2, t1, xbI_some, k0, xbI_some, (eA i (Or.inl rfl)).1, t2, xbI_some]
  simp only [e4]
  cases d1 : tch cA cB o (cB i) with
  | true => rw [if_neg (by decide), Bool.true_or]; rfl
  | false =>
    rw [show bI false = 0 from rfl, if_pos rfl, Bool.false_or]
    by_cases d2 : lp (5 * i) = 4
    · rw [if_pos d2, decide_eq_true d2, Bool.true_and]
      cases d3 : tch cA cB o (cA i) with
      | true => rw [if_neg (by decide)]; rfl
      | false => rw [show bI false = 0 from rfl, if_pos rfl]
    · rw [if_neg d2, decide_eq_false d2, Bool.false_and]; rfl
end TOUCH
