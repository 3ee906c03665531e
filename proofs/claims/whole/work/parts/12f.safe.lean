/-! whether something holds, as 0 or 1 -/
noncomputable def b1 (P : Prop) : Int32 := @ite Int32 P (Classical.propDecidable P) 1 0
theorem b1_t {P : Prop} (h : P) : b1 P = 1 := by unfold b1; exact if_pos h
theorem b1_f {P : Prop} (h : ¬ P) : b1 P = 0 := by unfold b1; exact if_neg h
theorem b1_z {P : Prop} : (b1 P = 0) = ¬ P := by
  apply propext
  by_cases h : P
  · rw [b1_t h]
    exact ⟨fun e => absurd e (by decide), fun e => absurd h e⟩
  · rw [b1_f h]
    exact ⟨fun _ => h, fun _ => rfl⟩
theorem b1_c {P Q : Prop} (h : P ↔ Q) : b1 P = b1 Q := by rw [propext h]
/-- two places are one cell -/
def one (X Y : Nat → Option Nat) (i j : Nat) : Prop := ∃ c, X i = some c ∧ Y j = some c
section SAFE
variable {hi : Nat → Nat → Int32} {hl : Nat → Nat → Int64} {r : xRr} {nb nv : Nat} {vb : Nat → Nat} {vf vs : Nat → Int} {vc vk : Nat → Nat} {ch : Nat → List Nat} {bo : Nat → Nat} {bk bz ck : Nat → Nat} {cn : Nat → Int64}
theorem finds_o (h1 : IB nb bk bz ck cn hi hl) (h : IV nb nv vb vf vs vc vk ch bo hi) {u v i : Nat} (hu : u < nv) (hv : v < nv) {lo up : Nat} (hlo : lo ≤ up) (hup : up ≤ 12) : F_X8_findsCell (nI v) (nI lo) (nI up) (encc (clo vf vs vc ch bo bz u (i : Int))) hi hl r = some (b1 (∃ j, lo ≤ j ∧ j < up ∧ one (fun j => clo vf vs vc ch bo bz u (j : Int)) (fun j => clo vf vs vc ch bo bz v (j : Int)) i j), hi, hl, r) := by
  have kf := finds_c (r := r) h1 h hv hlo hup (clo vf vs vc ch bo bz u (i : Int)) (fun c hc => (clo_lt h1 h hu hc).1)
  rw [kf]
  congr 2
  obtain e | ⟨c, e⟩ : clo vf vs vc ch bo bz u (i : Int) = none ∨ ∃ k2, clo vf vs vc ch bo bz u (i : Int) = some k2 := by
    cases clo vf vs vc ch bo bz u (i : Int) with
    | none => exact Or.inl rfl
    | some k2 => exact Or.inr ⟨k2, rfl⟩
  · rw [e]
    refine (b1_f ?_).symm
    rintro ⟨j, -, -, c, h3, -⟩
    simp only [e] at h3
    exact absurd h3 (by simp)
  · rw [e]
    show (if fnd (fun j => clo vf vs vc ch bo bz v (j : Int)) c (up - lo) lo then (1 : Int32) else 0) = _
    by_cases cf : fnd (fun j => clo vf vs vc ch bo bz v (j : Int)) c (up - lo) lo = true
    · rw [if_pos cf]
      obtain ⟨j, g1, g2, g3⟩ := (fnd_iff _ _ _ _).mp cf
      exact (b1_t ⟨j, g1, by omega, c, e, g3⟩).symm
    · rw [if_neg cf]
      refine (b1_f ?_).symm
      rintro ⟨j, g1, g2, c', g3, g4⟩
      simp only [e] at g3
      obtain rfl := Option.some.inj g3
      exact cf ((fnd_iff _ _ _ _).mpr ⟨j, g1, by omega, g4⟩)
theorem areOne_m (h1 : IB nb bk bz ck cn hi hl) (h : IV nb nv vb vf vs vc vk ch bo hi) {u v i j : Nat} (hu : u < nv) (hv : v < nv) (hi9 : i ≤ 12) (hj : j ≤ 12) : F_X12_areOne (nI u) (nI i) (nI v) (nI j) hi hl r = some (b1 (one (fun j => clo vf vs vc ch bo bz u (j : Int)) (fun j => clo vf vs vc ch bo bz v (j : Int)) i j), hi, hl, r) := by
  have k1 := cellAt_me (r := r) h1 h hu (i := i) (by omega)
  have k2 := cellAt_me (r := r) h1 h hv (i := j) (by omega)
  unfold F_X12_areOne
  rw [k1, xbI_some, k1, xbI_some, k2, xbI_some]
  obtain e | ⟨c, e⟩ : clo vf vs vc ch bo bz u (i : Int) = none ∨ ∃ k2, clo vf vs vc ch bo bz u (i : Int) = some k2 := by
    cases clo vf vs vc ch bo bz u (i : Int) with
    | none => exact Or.inl rfl
    | some k2 => exact Or.inr ⟨k2, rfl⟩
  · rw [e, show encm none = (-1000 : Int32) from rfl, if_pos rfl]
    congr 2
    refine (b1_f ?_).symm
    rintro ⟨c, h3, -⟩
    simp only [e] at h3
    exact absurd h3 (by simp)
  · have hc := (clo_lt h1 h hu e).1
    have eqm := encm_eq (a := some c) (b := clo vf vs vc ch bo bz v (j : Int)) (fun x hx => by rw [← Option.some.inj hx]; exact hc) (fun x hx => (clo_lt h1 h hv hx).1) (by simp)
    have n1 : ¬ encm (some c) = (-1000 : Int32) := m1000n hc
    rw [e, if_neg n1]
    by_cases c2 : clo vf vs vc ch bo bz v (j : Int) = some c
    · rw [if_pos (by rw [eqm]; exact c2)]
      congr 2
      exact (b1_t ⟨c, e, c2⟩).symm
    · rw [if_neg (by rw [eqm]; exact c2)]
      congr 2
      refine (b1_f ?_).symm
      rintro ⟨c', g3, g4⟩
      simp only [e] at g3
      obtain rfl := Option.some.inj g3
      exact c2 g4
theorem safeUp_c (h1 : IB nb bk bz ck cn hi hl) (h : IV nb nv vb vf vs vc vk ch bo hi) {u v m : Nat} (hu : u < nv) (hv : v < nv) (hm : m ≤ 12) : ∀ k n i, i + k = m → k < n → F_X8_safeUpward_19 n (nI u) (nI v) (nI m) (nI i) hi hl r = some (b1 (∀ i', i ≤ i' → i' < m → ¬ ∃ j, 0 ≤ j ∧ j < i' ∧ one (fun j => clo vf vs vc ch bo bz u (j : Int)) (fun j => clo vf vs vc ch bo bz v (j : Int)) i' j), hi, hl, r) := by
  intro k
  induction k with
  | zero =>
    intro n i hik hn
    obtain ⟨n, rfl⟩ : ∃ q, n = q + 1 := ⟨n - 1, by omega⟩
    unfold F_X8_safeUpward_19
    rw [if_pos ((nI_leI (by omega) (by omega)).mpr (by omega)), b1_t (fun i' g1 g2 => by omega)]
  | succ k ih =>
    intro n i hik hn
    obtain ⟨n, rfl⟩ : ∃ q, n = q + 1 := ⟨n - 1, by omega⟩
    have g : ¬ nI m ≤ nI i := by rw [nI_leI (by omega) (by omega)]; omega
    have kc := cellAt_ce (r := r) h1 h hu (i := i) (by omega)
    have kf := finds_o (r := r) (i := i) h1 h hu hv (lo := 0) (up := i) (by omega) (by omega)
    rw [show nI 0 = (0 : Int32) from rfl] at kf
    have e1 : nI i + 1 = nI (i + 1) := nI_1 i
    unfold F_X8_safeUpward_19
    rw [if_neg g, kc, xbI_some, kf, xbI_some, e1, ih n (i + 1) (by omega) (by omega)]
    by_cases c : ∃ j, 0 ≤ j ∧ j < i ∧ one (fun j => clo vf vs vc ch bo bz u (j : Int)) (fun j => clo vf vs vc ch bo bz v (j : Int)) i j
    · rw [b1_t c, if_neg (by decide), b1_f (fun q => q i (Nat.le_refl _) (by omega) c)]
    · rw [b1_f c, if_pos rfl]
      congr 2
      refine b1_c ⟨fun q i' g1 g2 => ?_, fun q i' g1 g2 => q i' (by omega) g2⟩
      by_cases e : i' = i
      · rw [e]; exact c
      · exact q i' (by omega) g2
theorem safeDn_c (h1 : IB nb bk bz ck cn hi hl) (h : IV nb nv vb vf vs vc vk ch bo hi) {u v m : Nat} (hu : u < nv) (hv : v < nv) (hm : m ≤ 12) : ∀ k n i, i + k = m → k < n → F_X8_safeDownward_19 n (nI u) (nI v) (nI m) (nI i) hi hl r = some (b1 (∀ i', i ≤ i' → i' < m → (¬ ∃ j, i' + 1 ≤ j ∧ j < m ∧ one (fun j => clo vf vs vc ch bo bz u (j : Int)) (fun j => clo vf vs vc ch bo bz v (j : Int)) i' j) ∧ ¬ ∃ j, i' + 1 ≤ j ∧ j < m ∧ one (fun j => clo vf vs vc ch bo bz v (j : Int)) (fun j => clo vf vs vc ch bo bz v (j : Int)) i' j), hi, hl, r) := by
  intro k
  induction k with
  | zero =>
    intro n i hik hn
    obtain ⟨n, rfl⟩ : ∃ q, n = q + 1 := ⟨n - 1, by omega⟩
    unfold F_X8_safeDownward_19
    rw [if_pos ((nI_leI (by omega) (by omega)).mpr (by omega)), b1_t (fun i' g1 g2 => by omega)]
  | succ k ih =>
    intro n i hik hn
    obtain ⟨n, rfl⟩ : ∃ q, n = q + 1 := ⟨n - 1, by omega⟩
    have g : ¬ nI m ≤ nI i := by rw [nI_leI (by omega) (by omega)]; omega
    have kc := cellAt_ce (r := r) h1 h hu (i := i) (by omega)
    have kd := cellAt_ce (r := r) h1 h hv (i := i) (by omega)
    have kf := finds_o (r := r) (i := i) h1 h hu hv (lo := i + 1) (up := m) (by omega) (by omega)
    have kg := finds_o (r := r) (i := i) h1 h hv hv (lo := i + 1) (up := m) (by omega) (by omega)
    have e1 : nI i + 1 = nI (i + 1) := nI_1 i
    unfold F_X8_safeDownward_19
    rw [if_neg g, kc, xbI_some, e1, kf, xbI_some, kd, xbI_some, kg, xbI_some, ih n (i + 1) (by omega) (by omega)]
    by_cases c : ∃ j, i + 1 ≤ j ∧ j < m ∧ one (fun j => clo vf vs vc ch bo bz u (j : Int)) (fun j => clo vf vs vc ch bo bz v (j : Int)) i j
    · rw [b1_t c, if_neg (by decide), b1_f (fun q => (q i (Nat.le_refl _) (by omega)).1 c)]
    · rw [b1_f c, if_pos rfl]
      by_cases d : ∃ j, i + 1 ≤ j ∧ j < m ∧ one (fun j => clo vf vs vc ch bo bz v (j : Int)) (fun j => clo vf vs vc ch bo bz v (j : Int)) i j
      · rw [b1_t d, if_neg (by decide), b1_f (fun q => (q i (Nat.le_refl _) (by omega)).2 d)]
      · rw [b1_f d, if_pos rfl]
        congr 2
        refine b1_c ⟨fun q i' g1 g2 => ?_, fun q i' g1 g2 => q i' (by omega) g2⟩
        by_cases e : i' = i
        · rw [e]; exact ⟨c, d⟩
        · exact q i' (by omega) g2
theorem safem_in (h1 : IB nb bk bz ck cn hi hl) (h : IV nb nv vb vf vs vc vk ch bo hi) {u v i : Nat} (hu : u < nv) (hv : v < nv) (hi9 : i ≤ 12) (K : Int32 → Int32 → Int32 → Int32 → Int32 → (Nat → Nat → Int32) → (Nat → Nat → Int64) → xRr → Option (Int32 × xSt)) : ∀ k n j P Q, j + k = i → k < n → F_X12_safe_45 K n (nI u) (nI v) (b1 P) (b1 Q) (nI i) (nI j) hi hl r = K (nI u) (nI v) (b1 (P ∧ ∀ e, j ≤ e → e < i → ¬ one (fun j => clo vf vs vc ch bo bz u (j : Int)) (fun j => clo vf vs vc ch bo bz v (j : Int)) i e)) (b1 (Q ∧ ∀ e, j ≤ e → e < i → ¬ one (fun j => clo vf vs vc ch bo bz u (j : Int)) (fun j => clo vf vs vc ch bo bz v (j : Int)) e i ∧ ¬ one (fun j => clo vf vs vc ch bo bz v (j : Int)) (fun j => clo vf vs vc ch bo bz v (j : Int)) i e)) (nI (i + 1)) hi hl r := by
  intro k
  induction k with
  | zero =>
    intro n j P Q hik hn
    obtain ⟨n, rfl⟩ : ∃ q, n = q + 1 := ⟨n - 1, by omega⟩
    unfold F_X12_safe_45
    rw [if_pos ((nI_leI (by omega) (by omega)).mpr (by omega)), show nI i + 1 = nI (i + 1) from nI_1 i]
    congr 1
    · exact b1_c ⟨fun q => ⟨q, fun e g1 g2 => by omega⟩, fun q => q.1⟩
    · exact b1_c ⟨fun q => ⟨q, fun e g1 g2 => by omega⟩, fun q => q.1⟩
  | succ k ih =>
    intro n j P Q hik hn
    obtain ⟨n, rfl⟩ : ∃ q, n = q + 1 := ⟨n - 1, by omega⟩
    have g : ¬ nI i ≤ nI j := by rw [nI_leI (by omega) (by omega)]; omega
    have k1 := areOne_m (r := r) h1 h hu hv (i := i) (j := j) (by omega) (by omega)
    have k2 := areOne_m (r := r) h1 h hu hv (i := j) (j := i) (by omega) (by omega)
    have k3 := areOne_m (r := r) h1 h hv hv (i := i) (j := j) (by omega) (by omega)
    have e1 : nI j + 1 = nI (j + 1) := nI_1 j
    generalize eA : one (fun j => clo vf vs vc ch bo bz u (j : Int)) (fun j => clo vf vs vc ch bo bz v (j : Int)) i j = A at k1
    generalize eB : one (fun j => clo vf vs vc ch bo bz u (j : Int)) (fun j => clo vf vs vc ch bo bz v (j : Int)) j i = B at k2
    generalize eC : one (fun j => clo vf vs vc ch bo bz v (j : Int)) (fun j => clo vf vs vc ch bo bz v (j : Int)) i j = C at k3
    have key : ∀ P' Q', (P' ↔ (P ∧ ¬ A)) → (Q' ↔ (Q ∧ ¬ B ∧ ¬ C)) → F_X12_safe_45 K n (nI u) (nI v) (b1 P') (b1 Q') (nI i) (nI (j + 1)) hi hl r = K (nI u) (nI v) (b1 (P ∧ ∀ e, j ≤ e → e < i → ¬ one (fun j => clo vf vs vc ch bo bz u (j : Int)) (fun j => clo vf vs vc ch bo bz v (j : Int)) i e)) (b1 (Q ∧ ∀ e, j ≤ e → e < i → ¬ one (fun j => clo vf vs vc ch bo bz u (j : Int)) (fun j => clo vf vs vc ch bo bz v (j : Int)) e i ∧ ¬ one (fun j => clo vf vs vc ch bo bz v (j : Int)) (fun j => clo vf vs vc ch bo bz v (j : Int)) i e)) (nI (i + 1)) hi hl r := by
      intro P' Q' hP hQ
      rw [ih n (j + 1) P' Q' (by omega) (by omega)]
      congr 1
      · refine b1_c ⟨fun q => ⟨(hP.mp q.1).1, fun e g1 g2 => ?_⟩, fun q => ⟨hP.mpr ⟨q.1, ?_⟩, fun e g1 g2 => q.2 e (by omega) g2⟩⟩
        · by_cases ee : e = j
          · rw [ee, eA]; exact (hP.mp q.1).2
          · exact q.2 e (by omega) g2
        · rw [← eA]; exact q.2 j (Nat.le_refl _) (by omega)
      · refine b1_c ⟨fun q => ⟨(hQ.mp q.1).1, fun e g1 g2 => ?_⟩, fun q => ⟨hQ.mpr ⟨q.1, ?_⟩, fun e g1 g2 => q.2 e (by omega) g2⟩⟩
        · by_cases ee : e = j
          · rw [ee, eB, eC]; exact (hQ.mp q.1).2
          · exact q.2 e (by omega) g2
        · rw [← eB, ← eC]; exact q.2 j (Nat.le_refl _) (by omega)
    have t1 : (1 : Int32) = b1 True := (b1_t trivial).symm
    have t0 : (0 : Int32) = b1 False := (b1_f id).symm
    have snd : ∀ P', (P' ↔ (P ∧ ¬ A)) → F_X12_safe_74 K (F_X12_safe_45 K n) (nI u) (nI v) (b1 Q) (nI i) (nI j) (b1 P') hi hl r = K (nI u) (nI v) (b1 (P ∧ ∀ e, j ≤ e → e < i → ¬ one (fun j => clo vf vs vc ch bo bz u (j : Int)) (fun j => clo vf vs vc ch bo bz v (j : Int)) i e)) (b1 (Q ∧ ∀ e, j ≤ e → e < i → ¬ one (fun j => clo vf vs vc ch bo bz u (j : Int)) (fun j => clo vf vs vc ch bo bz v (j : Int)) e i ∧ ¬ one (fun j => clo vf vs vc ch bo bz v (j : Int)) (fun j => clo vf vs vc ch bo bz v (j : Int)) i e)) (nI (i + 1)) hi hl r := by
      intro P' hP
      unfold F_X12_safe_74 F_X12_safe_110 F_X12_safe_111
      rw [k2, xbI_some, k3, xbI_some, e1]
      by_cases cQ : Q
      · rw [b1_t cQ, if_neg (by decide)]
        by_cases cB : B
        · rw [b1_t cB, if_neg (by decide), t0]
          exact key P' False hP ⟨fun x => x.elim, fun x => x.2.1 cB⟩
        · rw [b1_f cB, if_pos rfl]
          by_cases cC : C
          · rw [b1_t cC, if_neg (by decide), t0]
            exact key P' False hP ⟨fun x => x.elim, fun x => x.2.2 cC⟩
          · rw [b1_f cC, if_pos rfl, t1]
            exact key P' True hP ⟨fun _ => ⟨cQ, cB, cC⟩, fun _ => trivial⟩
      · rw [b1_f cQ, if_pos rfl, t0]
        exact key P' False hP ⟨fun x => x.elim, fun x => cQ x.1⟩
    unfold F_X12_safe_45 F_X12_safe_73
    rw [if_neg g, k1, xbI_some]
    by_cases cP : P
    · rw [b1_t cP, if_neg (by decide)]
      by_cases cA : A
      · rw [b1_t cA, if_neg (by decide), t0]
        exact snd False ⟨fun x => x.elim, fun x => x.2 cA⟩
      · rw [b1_f cA, if_pos rfl, t1]
        exact snd True ⟨fun _ => ⟨cP, cA⟩, fun _ => trivial⟩
    · rw [b1_f cP, if_pos rfl, t0]
      exact snd False ⟨fun x => x.elim, fun x => cP x.1⟩
end SAFE
