/-! shares -/
def hit (C D : Nat → Option Nat) (m i : Nat) : Bool := match C i with
  | none => false
  | some c => fnd D c m 0
def shf (C D : Nat → Option Nat) (m : Nat) : Nat → Nat → Int32 → Int32
  | 0, _, acc => acc
  | k + 1, i, acc => shf C D m k (i + 1) (if hit C D m i then acc ||| ((1 : Int32) <<< (nI i &&& 31)) else acc)
section SHARES
variable {hi : Nat → Nat → Int32} {hl : Nat → Nat → Int64} {r : xRr} {nb nv : Nat} {vb : Nat → Nat} {vf vs : Nat → Int} {vc vk : Nat → Nat} {ch : Nat → List Nat} {bo : Nat → Nat} {bk bz ck : Nat → Nat} {cn : Nat → Int64}
theorem shared_c (h1 : IB nb bk bz ck cn hi hl) (h : IV nb nv vb vf vs vc vk ch bo hi) {u v : Nat} (hu : u < nv) (hv : v < nv) : ∀ k n i acc, i + k = vc u → k < n → F_X8_shared_5 n (nI u) (nI v) acc (nI i) hi hl r = some (shf (fun j => clo vf vs vc ch bo bz u (j : Int)) (fun j => clo vf vs vc ch bo bz v (j : Int)) (vc v) k i acc, hi, hl, r) := by
  have hnv := h.1
  obtain ⟨gu, gu2, -⟩ := h.2.2.2 u hu
  obtain ⟨gv, gv2, -⟩ := h.2.2.2 v hv
  intro k
  induction k with
  | zero =>
    intro n i acc hik hn
    obtain ⟨n, rfl⟩ : ∃ q, n = q + 1 := ⟨n - 1, by omega⟩
    have e : i = vc u := by omega
    unfold F_X8_shared_5
    rw [if_pos (xok_t (by omega) (by decide)), cl_nI (by omega), gu2.2.2.2.2.1, e, if_pos ((nI_leI (by omega) (by omega)).mpr (Nat.le_refl _))]
    rfl
  | succ k ih =>
    intro n i acc hik hn
    obtain ⟨n, rfl⟩ : ∃ q, n = q + 1 := ⟨n - 1, by omega⟩
    have g : ¬ nI (vc u) ≤ nI i := by rw [nI_leI (by omega) (by omega)]; omega
    have kc := cellAt_ce (r := r) h1 h hu (i := i) (by omega)
    have kf := finds_c (r := r) h1 h hv (lo := 0) (up := vc v) (by omega) (by omega) (clo vf vs vc ch bo bz u (i : Int)) (fun c hc => (clo_lt h1 h hu hc).1)
    rw [show nI 0 = (0 : Int32) from rfl] at kf
    have e1 : nI i + 1 = nI (i + 1) := nI_1 i
    unfold F_X8_shared_5 F_X8_shared_45
    rw [if_pos (xok_t (by omega) (by decide)), cl_nI (by omega), gu2.2.2.2.2.1, if_neg g, if_pos (xok_t (by omega) (by decide)), cl_nI (by omega), gv2.2.2.2.2.1, kc, xbI_some, kf, xbI_some, e1]
    rw [ih n (i + 1) acc (by omega) (by omega), ih n (i + 1) _ (by omega) (by omega)]
    obtain e | ⟨c, e⟩ : clo vf vs vc ch bo bz u (i : Int) = none ∨ ∃ k2, clo vf vs vc ch bo bz u (i : Int) = some k2 := by
      cases clo vf vs vc ch bo bz u (i : Int) with
      | none => exact Or.inl rfl
      | some k2 => exact Or.inr ⟨k2, rfl⟩
    · have hh : hit (fun j => clo vf vs vc ch bo bz u (j : Int)) (fun j => clo vf vs vc ch bo bz v (j : Int)) (vc v) i = false := by
        unfold hit
        simp only [e]
      rw [e, show fcr (fun j => clo vf vs vc ch bo bz v (j : Int)) (vc v - 0) 0 none = 0 from rfl, if_pos rfl]
      simp only [shf, hh]
      rfl
    · have hh : hit (fun j => clo vf vs vc ch bo bz u (j : Int)) (fun j => clo vf vs vc ch bo bz v (j : Int)) (vc v) i = fnd (fun j => clo vf vs vc ch bo bz v (j : Int)) c (vc v) 0 := by
        unfold hit
        simp only [e]
      rw [e, show fcr (fun j => clo vf vs vc ch bo bz v (j : Int)) (vc v - 0) 0 (some c) = (if fnd (fun j => clo vf vs vc ch bo bz v (j : Int)) c (vc v) 0 then 1 else 0) from rfl]
      simp only [shf, hh]
      by_cases cf : fnd (fun j => clo vf vs vc ch bo bz v (j : Int)) c (vc v) 0 = true
      · simp [cf]
      · simp [cf]
end SHARES
