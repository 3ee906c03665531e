/-! whether a cell lies among a view's places -/
def fnd (C : Nat → Option Nat) (c : Nat) : Nat → Nat → Bool
  | 0, _ => false
  | k + 1, i => if C i = some c then true else fnd C c k (i + 1)
theorem fnd_iff (C : Nat → Option Nat) (c : Nat) : ∀ k i, fnd C c k i = true ↔ ∃ j, i ≤ j ∧ j < i + k ∧ C j = some c := by
  intro k
  induction k with
  | zero =>
    intro i
    simp only [fnd]
    constructor
    · intro h; exact absurd h (by simp)
    · rintro ⟨j, h1, h2, -⟩; omega
  | succ k ih =>
    intro i
    simp only [fnd]
    by_cases c1 : C i = some c
    · rw [if_pos c1]
      exact ⟨fun _ => ⟨i, Nat.le_refl _, by omega, c1⟩, fun _ => rfl⟩
    · rw [if_neg c1, ih]
      constructor
      · rintro ⟨j, h1, h2, h3⟩; exact ⟨j, by omega, by omega, h3⟩
      · rintro ⟨j, h1, h2, h3⟩
        have : j ≠ i := fun e => c1 (e ▸ h3)
        exact ⟨j, by omega, by omega, h3⟩
theorem m1i : (-1 : Int32).toInt = -1 := by decide +kernel
theorem m1n {c : Nat} (hc : c < 72) : ¬ (-1 : Int32) = nI c := by
  intro q
  have t2 : (nI c).toInt = (c : Int) := nI_toInt (by omega)
  rw [← q, m1i] at t2
  omega
def encc (o : Option Nat) : Int32 := match o with
  | none => -1
  | some k => nI k
def fcr (D : Nat → Option Nat) (k i : Nat) (o : Option Nat) : Int32 := match o with
  | none => 0
  | some c => if fnd D c k i then 1 else 0
section FIND
variable {hi : Nat → Nat → Int32} {hl : Nat → Nat → Int64} {r : xRr} {nb nv : Nat} {vb : Nat → Nat} {vf vs : Nat → Int} {vc vk : Nat → Nat} {ch : Nat → List Nat} {bo : Nat → Nat} {bk bz ck : Nat → Nat} {cn : Nat → Int64}
theorem clo_lt (h1 : IB nb bk bz ck cn hi hl) (h : IV nb nv vb vf vs vc vk ch bo hi) {v : Nat} (hv : v < nv) {p : Int} {k : Nat} (e : clo vf vs vc ch bo bz v p = some k) : k < 72 ∧ k / 12 = bo v ∧ k < 12 * nb := by
  have hnb := h1.1
  have hbo := (h.2.2.2 v hv).1.2.2.2.2.2
  have b2 := (h1.2.2.2.1 _ hbo).2.1
  cases ep : plc vf vs vc (ch v).reverse p with
  | none => rw [clo_n ep] at e; exact absurd e (by simp)
  | some x =>
    rw [clo_s ep] at e
    by_cases c : 0 ≤ x ∧ x < (bz (bo v) : Int)
    · rw [if_pos c] at e
      have := Option.some.inj e
      omega
    · rw [if_neg c] at e
      exact absurd e (by simp)
theorem cellAt_cn (h1 : IB nb bk bz ck cn hi hl) (h : IV nb nv vb vf vs vc vk ch bo hi) {v : Nat} (hv : v < nv) {i : Nat} (hp : i ≤ 100) : F_X8_cellAt (nI v) (nI i) hi hl r = some ((match clo vf vs vc ch bo bz v (i : Int) with | none => -1 | some k => nI k), hi, hl, r) := by
  have k := cellAt_c (r := r) h1 h hv (p := (i : Int)) (by omega)
  rw [oI_nat i] at k
  exact k
theorem cellAt_mn (h1 : IB nb bk bz ck cn hi hl) (h : IV nb nv vb vf vs vc vk ch bo hi) {v : Nat} (hv : v < nv) {i : Nat} (hp : i ≤ 100) : F_X12_cellAt (nI v) (nI i) hi hl r = some ((match clo vf vs vc ch bo bz v (i : Int) with | none => -1000 | some k => nI k), hi, hl, r) := by
  have k := cellAt_m (r := r) h1 h hv (p := (i : Int)) (by omega)
  rw [oI_nat i] at k
  exact k
theorem findsCell_c (h1 : IB nb bk bz ck cn hi hl) (h : IV nb nv vb vf vs vc vk ch bo hi) {v : Nat} (hv : v < nv) {c : Nat} (hc : c < 72) {up : Nat} (hup : up ≤ 12) : ∀ k n i, i + k = up → k < n → F_X8_findsCell_11 n (nI v) (nI up) (nI c) (nI i) hi hl r = some (if fnd (fun j => clo vf vs vc ch bo bz v (j : Int)) c k i then 1 else 0, hi, hl, r) := by
  intro k
  induction k with
  | zero =>
    intro n i hik hn
    obtain ⟨n, rfl⟩ : ∃ q, n = q + 1 := ⟨n - 1, by omega⟩
    have : i = up := by omega
    subst this
    unfold F_X8_findsCell_11
    rw [if_pos ((nI_leI (by omega) (by omega)).mpr (Nat.le_refl _))]
    rfl
  | succ k ih =>
    intro n i hik hn
    obtain ⟨n, rfl⟩ : ∃ q, n = q + 1 := ⟨n - 1, by omega⟩
    have g : ¬ nI up ≤ nI i := by rw [nI_leI (by omega) (by omega)]; omega
    unfold F_X8_findsCell_11
    have kc := cellAt_cn (r := r) h1 h hv (i := i) (by omega)
    have kn := ih n (i + 1) (by omega) (by omega)
    have e1 : nI i + 1 = nI (i + 1) := nI_1 i
    obtain e | ⟨k2, e⟩ : clo vf vs vc ch bo bz v (i : Int) = none ∨ ∃ k2, clo vf vs vc ch bo bz v (i : Int) = some k2 := by
      cases clo vf vs vc ch bo bz v (i : Int) with
      | none => exact Or.inl rfl
      | some k2 => exact Or.inr ⟨k2, rfl⟩
    · rw [e] at kc
      dsimp only at kc
      have f1 : fnd (fun j => clo vf vs vc ch bo bz v (j : Int)) c (k + 1) i = fnd (fun j => clo vf vs vc ch bo bz v (j : Int)) c k (i + 1) := by
        simp only [fnd, e]
        rw [if_neg (by simp)]
      rw [if_neg g, kc, xbI_some, if_neg (m1n hc), e1, kn, f1]
    · rw [e] at kc
      dsimp only at kc
      have hk2 := (clo_lt h1 h hv e).1
      have eq : (nI k2 = nI c) = (k2 = c) := nI_eq' (by omega) (by omega)
      by_cases c2 : k2 = c
      · subst c2
        have f1 : fnd (fun j => clo vf vs vc ch bo bz v (j : Int)) k2 (k + 1) i = true := by
          simp only [fnd, e]
          rw [if_pos (by simp)]
        rw [if_neg g, kc, xbI_some, if_pos rfl, f1]
        rfl
      · have f1 : fnd (fun j => clo vf vs vc ch bo bz v (j : Int)) c (k + 1) i = fnd (fun j => clo vf vs vc ch bo bz v (j : Int)) c k (i + 1) := by
          simp only [fnd, e]
          rw [if_neg (by simp [c2])]
        have n2 : ¬ nI k2 = nI c := by rw [eq]; exact c2
        rw [if_neg g, kc, xbI_some, if_neg n2, e1, kn, f1]
theorem finds_c (h1 : IB nb bk bz ck cn hi hl) (h : IV nb nv vb vf vs vc vk ch bo hi) {v : Nat} (hv : v < nv) {lo up : Nat} (hlo : lo ≤ up) (hup : up ≤ 12) (o : Option Nat) (ho : ∀ c, o = some c → c < 72) : F_X8_findsCell (nI v) (nI lo) (nI up) (encc o) hi hl r = some (fcr (fun j => clo vf vs vc ch bo bz v (j : Int)) (up - lo) lo o, hi, hl, r) := by
  unfold F_X8_findsCell
  cases o with
  | none => rw [show encc none = (-1 : Int32) from rfl, if_pos rfl]; rfl
  | some c =>
    have hc := ho c rfl
    have m1 : ¬ nI c = (-1 : Int32) := fun q => m1n hc q.symm
    rw [show encc (some c) = nI c from rfl, if_neg m1]
    exact findsCell_c h1 h hv hc hup (up - lo) 1000000 lo (by omega) (by omega)
theorem cellAt_ce (h1 : IB nb bk bz ck cn hi hl) (h : IV nb nv vb vf vs vc vk ch bo hi) {v : Nat} (hv : v < nv) {i : Nat} (hp : i ≤ 100) : F_X8_cellAt (nI v) (nI i) hi hl r = some (encc (clo vf vs vc ch bo bz v (i : Int)), hi, hl, r) := by
  rw [cellAt_cn h1 h hv hp]
  rfl
end FIND
