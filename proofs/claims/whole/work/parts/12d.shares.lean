/-! shares, the reference's side -/
def encm (o : Option Nat) : Int32 := match o with
  | none => -1000
  | some k => nI k
def hitk (D : Nat → Option Nat) (k j : Nat) (o : Option Nat) : Bool := match o with
  | none => false
  | some c => fnd D c k j
theorem m1000n {c : Nat} (hc : c < 72) : ¬ nI c = (-1000 : Int32) := by
  intro q
  have t2 : (nI c).toInt = (c : Int) := nI_toInt (by omega)
  have m : (-1000 : Int32).toInt = -1000 := by decide +kernel
  rw [q, m] at t2
  omega
section SHAREM
variable {hi : Nat → Nat → Int32} {hl : Nat → Nat → Int64} {r : xRr} {nb nv : Nat} {vb : Nat → Nat} {vf vs : Nat → Int} {vc vk : Nat → Nat} {ch : Nat → List Nat} {bo : Nat → Nat} {bk bz ck : Nat → Nat} {cn : Nat → Int64}
theorem cellAt_me (h1 : IB nb bk bz ck cn hi hl) (h : IV nb nv vb vf vs vc vk ch bo hi) {v : Nat} (hv : v < nv) {i : Nat} (hp : i ≤ 100) : F_X12_cellAt (nI v) (nI i) hi hl r = some (encm (clo vf vs vc ch bo bz v (i : Int)), hi, hl, r) := by
  rw [cellAt_mn h1 h hv hp]
  rfl
theorem encm_eq {a b : Option Nat} (ha : ∀ c, a = some c → c < 72) (hb : ∀ c, b = some c → c < 72) (hn : a ≠ none) : (encm a = encm b) = (b = a) := by
  cases a with
  | none => exact absurd rfl hn
  | some x =>
    cases b with
    | none =>
      apply propext
      constructor
      · intro q; exact absurd q (m1000n (ha x rfl))
      · intro q; exact absurd q (by simp)
    | some y =>
      show (nI x = nI y) = _
      have := ha x rfl
      have := hb y rfl
      rw [nI_eq' (by omega) (by omega)]
      apply propext
      constructor
      · intro q; rw [q]
      · intro q; exact (Option.some.inj q).symm
theorem sharem_in (h1 : IB nb bk bz ck cn hi hl) (h : IV nb nv vb vf vs vc vk ch bo hi) {u v i : Nat} (hu : u < nv) (hv : v < nv) (hi9 : i ≤ 12) (K : Int32 → Int32 → Int32 → Int32 → (Nat → Nat → Int32) → (Nat → Nat → Int64) → xRr → Option (Int32 × xSt)) : ∀ k n j acc, j + k = vc v → k < n → F_X12_shares_42 K n (nI u) (nI v) acc (nI i) (nI j) hi hl r = K (nI u) (nI v) (if hitk (fun j => clo vf vs vc ch bo bz v (j : Int)) k j (clo vf vs vc ch bo bz u (i : Int)) then acc ||| ((1 : Int32) <<< (nI i &&& 31)) else acc) (nI (i + 1)) hi hl r := by
  have hnv := h.1
  obtain ⟨gv, gv2, -⟩ := h.2.2.2 v hv
  intro k
  induction k with
  | zero =>
    intro n j acc hik hn
    obtain ⟨n, rfl⟩ : ∃ q, n = q + 1 := ⟨n - 1, by omega⟩
    have e : j = vc v := by omega
    have hz : hitk (fun j => clo vf vs vc ch bo bz v (j : Int)) 0 j (clo vf vs vc ch bo bz u (i : Int)) = false := by
      unfold hitk
      cases clo vf vs vc ch bo bz u (i : Int) <;> rfl
    unfold F_X12_shares_42
    rw [if_pos (xok_t (by omega) (by decide)), cl_nI (by omega), gv2.2.2.2.2.2.1, e, if_pos ((nI_leI (by omega) (by omega)).mpr (Nat.le_refl _)), show nI i + 1 = nI (i + 1) from nI_1 i, ← e, hz]
    rfl
  | succ k ih =>
    intro n j acc hik hn
    obtain ⟨n, rfl⟩ : ∃ q, n = q + 1 := ⟨n - 1, by omega⟩
    have g : ¬ nI (vc v) ≤ nI j := by rw [nI_leI (by omega) (by omega)]; omega
    have k1 := cellAt_me (r := r) h1 h hu (i := i) (by omega)
    have k2 := cellAt_me (r := r) h1 h hv (i := j) (by omega)
    have e1 : nI j + 1 = nI (j + 1) := nI_1 j
    have z0 : acc ||| (0 : Int32) = acc := by simp
    unfold F_X12_shares_42 F_X12_shares_91 F_X12_shares_92
    rw [if_pos (xok_t (by omega) (by decide)), cl_nI (by omega), gv2.2.2.2.2.2.1, if_neg g, k1, xbI_some, k1, xbI_some, k2, xbI_some, e1, z0, ih n (j + 1) acc (by omega) (by omega), ih n (j + 1) _ (by omega) (by omega)]
    obtain e | ⟨c, e⟩ : clo vf vs vc ch bo bz u (i : Int) = none ∨ ∃ k2, clo vf vs vc ch bo bz u (i : Int) = some k2 := by
      cases clo vf vs vc ch bo bz u (i : Int) with
      | none => exact Or.inl rfl
      | some k2 => exact Or.inr ⟨k2, rfl⟩
    · rw [e, show encm none = (-1000 : Int32) from rfl, if_pos rfl]
      rfl
    · have hc := (clo_lt h1 h hu e).1
      have eqm := encm_eq (a := some c) (b := clo vf vs vc ch bo bz v (j : Int)) (fun x hx => by rw [← Option.some.inj hx]; exact hc) (fun x hx => (clo_lt h1 h hv hx).1) (by simp)
      rw [e]
      have n1 : ¬ encm (some c) = (-1000 : Int32) := m1000n hc
      rw [if_neg n1]
      have hs : hitk (fun j => clo vf vs vc ch bo bz v (j : Int)) (k + 1) j (some c) = if clo vf vs vc ch bo bz v (j : Int) = some c then true else hitk (fun j => clo vf vs vc ch bo bz v (j : Int)) k (j + 1) (some c) := rfl
      rw [hs]
      by_cases c2 : clo vf vs vc ch bo bz v (j : Int) = some c
      · rw [if_pos (by rw [eqm]; exact c2), if_pos c2, if_pos rfl]
        have idm : ∀ b : Int32, acc ||| b ||| b = acc ||| b := fun b => by rw [Int32.or_assoc, Int32.or_self]
        by_cases c3 : hitk (fun j => clo vf vs vc ch bo bz v (j : Int)) k (j + 1) (some c) = true
        · rw [if_pos c3, idm]
        · rw [if_neg c3]
      · rw [if_neg (by rw [eqm]; exact c2), if_neg c2]
end SHAREM
