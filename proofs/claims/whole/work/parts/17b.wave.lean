section FINDW
variable {hi0 : Nat → Nat → Int32} {hl : Nat → Nat → Int64} {r : xRr} {nb nv ln : Nat} {vb : Nat → Nat} {vf vs : Nat → Int} {vc vk : Nat → Nat} {ch : Nat → List Nat} {bo : Nat → Nat} {bk bz ck : Nat → Nat} {cn : Nat → Int64} {lp : Nat → Nat}
/-- a line's two cells -/
def lcA (vf vs : Nat → Int) (vc : Nat → Nat) (ch : Nat → List Nat) (bo bz lp : Nat → Nat) (i : Nat) : Option Nat := clo vf vs vc ch bo bz (lp (5 * i + 1)) (lp (5 * i + 2) : Int)
def lcB (vf vs : Nat → Int) (vc : Nat → Nat) (ch : Nat → List Nat) (bo bz lp : Nat → Nat) (i : Nat) : Option Nat := clo vf vs vc ch bo bz (lp (5 * i + 3)) (lp (5 * i + 4) : Int)
theorem find_in {hi : Nat → Nat → Int32} {k : Nat} {cA cB : Nat → Option Nat} {w : Nat → Nat} (hln : ln ≤ 16) (hL : ∀ k, k < 5 * ln → hi 31 k = nI (lp k) ∧ hi 107 k = nI (lp k)) (h6 : ∀ i, i < ln → lp (5 * i) ≤ 6) (hk : k < ln) (eA : ∀ j, j ≤ k → hi 37 j = encc (cA j) ∧ hi 38 j = encc (cB j)) (hA : ∀ k x, cA k = some x → x < 72) (hB : ∀ k x, cB k = some x → x < 72) (hw : ∀ j, j < k → hi 39 j = nI (w j) ∧ w j ≤ j) (K : Int32 → (Nat → Nat → Int32) → (Nat → Nat → Int64) → xRr → Option xSt) : ∀ d n j, j + d = k → d < n → F_X10_find_79 K n (nI k) (nI (wm (clsh lp cA cB) w k j)) (nI j) hi hl r = K (nI (k + 1)) (xu hi 39 k (nI (wm (clsh lp cA cB) w k k))) hl r := by
  intro d
  induction d with
  | zero =>
    intro n j hjd hn
    obtain ⟨n, rfl⟩ : ∃ q, n = q + 1 := ⟨n - 1, by omega⟩
    have e : j = k := by omega
    subst e
    unfold F_X10_find_79
    rw [if_pos ((nI_leI (by omega) (by omega)).mpr (Nat.le_refl _)), if_pos (xok_t (by omega) (by decide)), cl_nI (by omega), show nI j + 1 = nI (j + 1) from nI_1 j]
  | succ d ih =>
    intro n j hjd hn
    obtain ⟨n, rfl⟩ : ∃ q, n = q + 1 := ⟨n - 1, by omega⟩
    have g : ¬ nI k ≤ nI j := by rw [nI_leI (by omega) (by omega)]; omega
    have c1 := changes_c (hl := hl) (r := r) (i := j) (o := k) hln hL (by omega) hk (h6 j (by omega)) (fun x hx => eA x (by omega)) hA hB
    have c2 := changes_c (hl := hl) (r := r) (i := k) (o := j) hln hL hk (by omega) (h6 k hk) (fun x hx => eA x (by omega)) hA hB
    have wl := wm_le (cl := clsh lp cA cB) (w := w) (k := k) j (fun i hi9 => (hw i (by omega)).2)
    obtain ⟨w1, w2⟩ := hw j (by omega)
    have el : (nI (wm (clsh lp cA cB) w k j) < nI (w j + 1)) = (wm (clsh lp cA cB) w k j < w j + 1) := nI_lt' (by omega) (by omega)
    have i1 := ih n (j + 1) (by omega) (by omega)
    have yes : clsh lp cA cB j k = true → F_X10_find_102 K (F_X10_find_79 K n) (nI k) (nI (wm (clsh lp cA cB) w k j)) (nI j) hi hl r = K (nI (k + 1)) (xu hi 39 k (nI (wm (clsh lp cA cB) w k k))) hl r := by
      intro hc
      unfold F_X10_find_102 F_X10_find_115
      rw [if_pos (xok_t (by omega) (by decide)), cl_nI (by omega), w1, show nI (w j) + 1 = nI (w j + 1) from nI_1 _, show nI j + 1 = nI (j + 1) from nI_1 j]
      simp only [el]
      rw [← i1]
      simp only [wm, if_pos hc]
      by_cases c : wm (clsh lp cA cB) w k j < w j + 1
      · rw [if_pos c, Nat.max_eq_right (by omega)]
      · rw [if_neg c, Nat.max_eq_left (by omega)]
    have no : clsh lp cA cB j k = false → F_X10_find_115 K (F_X10_find_79 K n) (nI k) (nI (wm (clsh lp cA cB) w k j)) (nI j) hi hl r = K (nI (k + 1)) (xu hi 39 k (nI (wm (clsh lp cA cB) w k k))) hl r := by
      intro hc
      unfold F_X10_find_115
      rw [show nI j + 1 = nI (j + 1) from nI_1 j, ← i1]
      simp only [wm, hc]
      rfl
    unfold F_X10_find_79
    rw [if_neg g, c1, xbI_some, c2, xbI_some]
    cases d1 : chg lp cA cB j k with
    | true =>
      rw [if_neg (by decide)]
      exact yes (by unfold clsh; rw [d1, Bool.true_or])
    | false =>
      rw [show bI false = 0 from rfl, if_pos rfl]
      cases d2 : chg lp cA cB k j with
      | true =>
        rw [if_neg (by decide)]
        exact yes (by unfold clsh; rw [d2, Bool.or_true])
      | false =>
        rw [show bI false = 0 from rfl, if_pos rfl]
        exact no (by unfold clsh; rw [d1, d2]; rfl)
theorem find_out (h1 : IB nb bk bz ck cn hi0 hl) (h2 : IV nb nv vb vf vs vc vk ch bo hi0) (h6 : IL nv ln lp hi0) (hpl : plnF lp ln 0) : ∀ d n k w hi, k + d = ln → d < n → scI hi0 hi → (∀ j, j < k → hi 37 j = encc (lcA vf vs vc ch bo bz lp j) ∧ hi 38 j = encc (lcB vf vs vc ch bo bz lp j) ∧ hi 39 j = nI (w j)) → isW (clsh lp (lcA vf vs vc ch bo bz lp) (lcB vf vs vc ch bo bz lp)) w k → ∃ hi' w', F_X10_find_2 n (nI k) hi hl r = some (hi', hl, r) ∧ scI hi0 hi' ∧ (∀ j, j < ln → hi' 39 j = nI (w' j)) ∧ isW (clsh lp (lcA vf vs vc ch bo bz lp) (lcB vf vs vc ch bo bz lp)) w' ln := by
  have n8 := h2.1
  have hln := h6.1
  have hA : ∀ k x, k < ln → lcA vf vs vc ch bo bz lp k = some x → x < 72 := fun k x hk e => (clo_lt h1 h2 ((h6.2.2.2.2.2.1 k hk).2.1 (hpl k (by omega) hk).1).1 e).1
  have hB : ∀ k x, k < ln → lcB vf vs vc ch bo bz lp k = some x → x < 72 := fun k x hk e => (clo_lt h1 h2 ((h6.2.2.2.2.2.1 k hk).2.1 (hpl k (by omega) hk).1).2.1 e).1
  /- only lines that there are -/
  generalize eA : (fun k => if k < ln then lcA vf vs vc ch bo bz lp k else none) = cA
  generalize eB : (fun k => if k < ln then lcB vf vs vc ch bo bz lp k else none) = cB
  have cAl : ∀ k, k < ln → cA k = lcA vf vs vc ch bo bz lp k := fun k hk => by rw [← eA]; exact if_pos hk
  have cBl : ∀ k, k < ln → cB k = lcB vf vs vc ch bo bz lp k := fun k hk => by rw [← eB]; exact if_pos hk
  have hA' : ∀ k x, cA k = some x → x < 72 := fun k x e => by
    by_cases c : k < ln
    · exact hA k x c (by rw [← cAl k c]; exact e)
    · rw [← eA] at e
      simp only [if_neg c] at e
      exact absurd e (by simp)
  have hB' : ∀ k x, cB k = some x → x < 72 := fun k x e => by
    by_cases c : k < ln
    · exact hB k x c (by rw [← cBl k c]; exact e)
    · rw [← eB] at e
      simp only [if_neg c] at e
      exact absurd e (by simp)
  have ecl : ∀ j k, j < ln → k < ln → clsh lp cA cB j k = clsh lp (lcA vf vs vc ch bo bz lp) (lcB vf vs vc ch bo bz lp) j k := by
    intro j k hj hk
    unfold clsh chg tch
    rw [cAl j hj, cAl k hk, cBl j hj, cBl k hk]
  have ewm : ∀ (w : Nat → Nat) k j, k < ln → j ≤ ln → wm (clsh lp cA cB) w k j = wm (clsh lp (lcA vf vs vc ch bo bz lp) (lcB vf vs vc ch bo bz lp)) w k j := by
    intro w k j hk
    induction j with
    | zero => intro _; rfl
    | succ j ih =>
      intro hj
      simp only [wm]
      rw [ih (by omega), ecl j k (by omega) hk]
  intro d
  induction d with
  | zero =>
    intro n k w hi hkd hn hs hr hw
    obtain ⟨n, rfl⟩ : ∃ q, n = q + 1 := ⟨n - 1, by omega⟩
    have e : k = ln := by omega
    subst e
    refine ⟨hi, w, ?_, hs, fun j hj => (hr j hj).2.2, hw⟩
    unfold F_X10_find_2
    rw [(h6.sc hs).2.1, if_pos ((nI_leI (by omega) (by omega)).mpr (Nat.le_refl _))]
  | succ d ih =>
    intro n k w hi hkd hn hs hr hw
    obtain ⟨n, rfl⟩ : ∃ q, n = q + 1 := ⟨n - 1, by omega⟩
    have g : ¬ nI ln ≤ nI k := by rw [nI_leI (by omega) (by omega)]; omega
    have hk : k < ln := by omega
    obtain ⟨p5, p12, p12'⟩ := hpl k (by omega) hk
    obtain ⟨v1, v3, -, -⟩ := (h6.2.2.2.2.2.1 k hk).2.1 p5
    have s1 : scI hi0 (xu hi 37 k (encc (cA k))) := hs.trans (scI.u _ _ (by decide))
    have s2 : scI hi0 (xu (xu hi 37 k (encc (cA k))) 38 k (encc (cB k))) := s1.trans (scI.u _ _ (by decide))
    have L1 := (h6.sc hs).2.2.2.2.1
    have L2 := (h6.sc s1).2.2.2.2.1
    have L3 := (h6.sc s2).2.2.2.2.1
    have k1 := part_c (hl := hl) (r := r) L1 hln (i := k) (j := 1) hk (by omega)
    have k2 := part_c (hl := hl) (r := r) L1 hln (i := k) (j := 2) hk (by omega)
    have k3 := part_c (hl := hl) (r := r) L2 hln (i := k) (j := 3) hk (by omega)
    have k4 := part_c (hl := hl) (r := r) L2 hln (i := k) (j := 4) hk (by omega)
    rw [show nI 1 = (1 : Int32) from rfl] at k1
    rw [show nI 2 = (2 : Int32) from rfl] at k2
    rw [show nI 3 = (3 : Int32) from rfl] at k3
    rw [show nI 4 = (4 : Int32) from rfl] at k4
    have a1 := cellAt_ce (r := r) (h1.sc hs scL.rf) (h2.sc hs) v1 (i := lp (5 * k + 2)) (by omega)
    have a2 := cellAt_ce (r := r) (h1.sc s1 scL.rf) (h2.sc s1) v3 (i := lp (5 * k + 4)) (by omega)
    have a1' : F_X8_cellAt (nI (lp (5 * k + 1))) (nI (lp (5 * k + 2))) hi hl r = some (encc (cA k), hi, hl, r) := by rw [cAl k hk]; exact a1
    have a2' : F_X8_cellAt (nI (lp (5 * k + 3))) (nI (lp (5 * k + 4))) (xu hi 37 k (encc (cA k))) hl r = some (encc (cB k), xu hi 37 k (encc (cA k)), hl, r) := by rw [cBl k hk]; exact a2
    have wle := isW_le hw
    have fi := find_in (hl := hl) (r := r) (hi := xu (xu hi 37 k (encc (cA k))) 38 k (encc (cB k))) (k := k) (w := w) hln L3 (fun i hi9 => (h6.2.2.2.2.2.1 i hi9).1) hk (fun j hj => by
      by_cases e : j = k
      · subst e
        exact ⟨by rw [xu_ne2 _ _ (Or.inl (by decide)), xu_at], xu_at _ _ _ _⟩
      · rw [xu_ne2 _ _ (Or.inl (by decide)), xu_ne2 _ _ (Or.inr e), xu_ne2 _ _ (Or.inr e), xu_ne2 _ _ (Or.inl (by decide)), cAl j (by omega), cBl j (by omega)]
        exact ⟨(hr j (by omega)).1, (hr j (by omega)).2.1⟩) hA' hB' (fun j hj => ⟨by rw [xu_ne2 _ _ (Or.inl (by decide)), xu_ne2 _ _ (Or.inl (by decide))]; exact (hr j hj).2.2, wle j hj⟩) (F_X10_find_2 n) k 1000000 0 (by omega) (by omega)
    rw [show nI 0 = (0 : Int32) from rfl, show wm (clsh lp cA cB) w k 0 = 0 from rfl, show nI 0 = (0 : Int32) from rfl, ewm w k k hk (by omega)] at fi
    have s3 := s2.trans (scI.u (a := 39) k (nI (wm (clsh lp (lcA vf vs vc ch bo bz lp) (lcB vf vs vc ch bo bz lp)) w k k)) (by decide))
    obtain ⟨hi', w', z1, z2, z3, z4⟩ := ih n (k + 1) (fun i => if i = k then wm (clsh lp (lcA vf vs vc ch bo bz lp) (lcB vf vs vc ch bo bz lp)) w k k else w i) _ (by omega) (by omega) s3 (fun j hj => by
      by_cases e : j = k
      · subst e
        rw [xu_ne2 _ _ (Or.inl (by decide)), xu_ne2 _ _ (Or.inl (by decide)), xu_at, xu_ne2 _ _ (Or.inl (by decide)), xu_at, xu_at, cAl j hk, cBl j hk]
        simp only [if_true]
        exact ⟨trivial, trivial, trivial⟩
      · rw [xu_ne2 _ _ (Or.inl (by decide)), xu_ne2 _ _ (Or.inl (by decide)), xu_ne2 _ _ (Or.inr e), xu_ne2 _ _ (Or.inl (by decide)), xu_ne2 _ _ (Or.inr e), xu_ne2 _ _ (Or.inl (by decide)), xu_ne2 _ _ (Or.inr e), xu_ne2 _ _ (Or.inl (by decide)), xu_ne2 _ _ (Or.inl (by decide))]
        simp only [if_neg e]
        exact hr j (by omega)) (isW_s hw)
    refine ⟨hi', w', ?_, z2, z3, z4⟩
    unfold F_X10_find_2
    rw [(h6.sc hs).2.1, if_neg g, k1, xbI_some, k2, xbI_some, a1', xbI_some, if_pos (xok_t (by omega) (by decide)), cl_nI (by omega), k3, xbI_some, k4, xbI_some, a2', xbI_some, fi, z1]
end FINDW
