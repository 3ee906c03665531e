/-! how few tries: the class -/
theorem well_t : ∀ a, a < 26 → xwell.getD a 0 = nI (xsetOf (4 * a)) ∧ (2047 : Int32) &&& (xwell.getD a 0 ^^^ (-1)) = nI (xsetOf (4 * a + 3)) := by decide +kernel
theorem shl_t : ∀ m, m < 14 → (1 : Int32) <<< (nI m &&& 31) = nI (2 ^ m) := fun m hm => i_one m (by omega)
section FEWC
variable {hi : Nat → Nat → Int32} {hl : Nat → Nat → Int64} {r : xRr}
theorem begin_l {S : Nat → Int32 → Int32 → (Nat → Nat → Int32) → (Nat → Nat → Int64) → xRr → Option (Int32 × xSt)} {s m : Nat} (hs : s < 8192) (hm : m < 13) (h84 : ∀ j, j < 26 → hi 84 j = xwell.getD j 0) (hS : ∀ t, t < 8192 → S 84 (nI t) (nI m) hi hl r = some (b1 (pt t ≤ m), hi, hl, r)) : ∀ d n a, a + d = 26 → d < n → (∃ b, a ≤ b ∧ b < 26 ∧ fst' s m b ∧ (∀ c, a ≤ c → c < b → ¬ fst' s m c) ∧ F_X7_beginning_2 S n 84 (nI s) (nI (m + 1)) (nI a) hi hl r = some (nI b, hi, hl, r)) ∨ ((∀ c, a ≤ c → c < 26 → ¬ fst' s m c) ∧ F_X7_beginning_2 S n 84 (nI s) (nI (m + 1)) (nI a) hi hl r = some (-20, hi, hl, r)) := by
  intro d
  induction d with
  | zero =>
    intro n a had hn
    obtain ⟨n, rfl⟩ : ∃ q, n = q + 1 := ⟨n - 1, by omega⟩
    have e : a = 26 := by omega
    subst e
    refine Or.inr ⟨fun c h1 h2 => by omega, ?_⟩
    unfold F_X7_beginning_2
    rw [if_pos (by decide)]
  | succ d ih =>
    intro n a had hn
    obtain ⟨n, rfl⟩ : ∃ q, n = q + 1 := ⟨n - 1, by omega⟩
    have g : ¬ (25 : Int32) < nI a := by rw [show (25 : Int32) = nI 25 from rfl, nI_ltI (by decide) (by omega)]; omega
    obtain ⟨w1, w2⟩ := well_t a (by omega)
    have e2 : (nI s &&& (2047 : Int32)) &&& (xwell.getD a 0 ^^^ (-1)) = nI (s &&& xsetOf (4 * a + 3)) := by
      rw [Int32.and_assoc, w2, i_and]
    have s1 := hS (s &&& xsetOf (4 * a)) (and_lt hs)
    have s2 := hS (s &&& xsetOf (4 * a + 3)) (and_lt hs)
    have un : F_X7_beginning_2 S (n + 1) 84 (nI s) (nI (m + 1)) (nI a) hi hl r = (if b1 (pt (s &&& xsetOf (4 * a)) ≤ m) = 0 then F_X7_beginning_2 S n 84 (nI s) (nI (m + 1)) (nI (a + 1)) hi hl r else if b1 (pt (s &&& xsetOf (4 * a + 3)) ≤ m) = 0 then F_X7_beginning_2 S n 84 (nI s) (nI (m + 1)) (nI (a + 1)) hi hl r else some (nI a, hi, hl, r)) := by
      conv => lhs; unfold F_X7_beginning_2 F_X7_beginning_46
      rw [if_neg g, if_pos (xokA_t (N := 26) (by decide) (by decide) (by omega) (by decide)), cl_nI (by omega), h84 a (by omega), nI_s1 (by omega), show nI s &&& xwell.getD a 0 = nI (s &&& xsetOf (4 * a)) by rw [w1, i_and], s1, xbI_some, h84 a (by omega), e2, s2, xbI_some, show nI a + 1 = nI (a + 1) from nI_1 a]
    rw [un]
    have next : ¬ fst' s m a → (∃ b, a ≤ b ∧ b < 26 ∧ fst' s m b ∧ (∀ c, a ≤ c → c < b → ¬ fst' s m c) ∧ F_X7_beginning_2 S n 84 (nI s) (nI (m + 1)) (nI (a + 1)) hi hl r = some (nI b, hi, hl, r)) ∨ ((∀ c, a ≤ c → c < 26 → ¬ fst' s m c) ∧ F_X7_beginning_2 S n 84 (nI s) (nI (m + 1)) (nI (a + 1)) hi hl r = some (-20, hi, hl, r)) := by
      intro na
      rcases ih n (a + 1) (by omega) (by omega) with ⟨b, h1, h2, h3, h4, h5⟩ | ⟨h1, h2⟩
      · exact Or.inl ⟨b, by omega, h2, h3, fun c k1 k2 => by
          by_cases e : c = a
          · rw [e]; exact na
          · exact h4 c (by omega) k2, h5⟩
      · exact Or.inr ⟨fun c k1 k2 => by
          by_cases e : c = a
          · rw [e]; exact na
          · exact h1 c (by omega) k2, h2⟩
    by_cases c1 : pt (s &&& xsetOf (4 * a)) ≤ m
    · rw [b1_t c1, if_neg (by decide)]
      by_cases c2 : pt (s &&& xsetOf (4 * a + 3)) ≤ m
      · rw [b1_t c2, if_neg (by decide)]
        exact Or.inl ⟨a, Nat.le_refl _, by omega, ⟨c1, c2⟩, fun c k1 k2 => by omega, rfl⟩
      · rw [b1_f c2, if_pos rfl]
        exact next (fun q => c2 q.2)
    · rw [b1_f c1, if_pos rfl]
      exact next (fun q => c1 q.1)
theorem nm20 {b : Nat} (hb : b < 26) : ¬ nI b = (-20 : Int32) := by
  intro q
  have t : (nI b).toInt = (b : Int) := nI_toInt (by omega)
  rw [q, m20] at t
  omega
theorem sorts_c (h84 : ∀ j, j < 26 → hi 84 j = xwell.getD j 0) : ∀ m n s, m < n → m ≤ 13 → s < 8192 → F_X7_sorts n 84 (nI s) (nI m) hi hl r = some (b1 (pt s ≤ m), hi, hl, r) := by
  intro m
  induction m with
  | zero =>
    intro n s hn hm hs
    obtain ⟨n, rfl⟩ : ∃ q, n = q + 1 := ⟨n - 1, by omega⟩
    have h13 := ones_13 s
    have e1 : ((1 : Int32) < nI (ones13 s)) = (1 < ones13 s) := nI_lt' (a := 1) (by decide) (by omega)
    unfold F_X7_sorts
    rw [bitc hs, xbP_some]
    simp only [e1]
    by_cases c : 1 < ones13 s
    · have := pt_pos hs (by omega)
      rw [if_pos c, if_pos (show nI 0 = (0 : Int32) from rfl), b1_f (by omega)]
    · rw [if_neg c, b1_t (by rw [pt_small (by omega)]; exact Nat.le_refl _)]
  | succ m ih =>
    intro n s hn hm hs
    obtain ⟨n, rfl⟩ : ∃ q, n = q + 1 := ⟨n - 1, by omega⟩
    have h13 := ones_13 s
    have h13' := ones_13 (s &&& 2047)
    have e1 : ((1 : Int32) < nI (ones13 s)) = (1 < ones13 s) := nI_lt' (a := 1) (by decide) (by omega)
    have p13 : 2 ^ (m + 1) < 2 ^ 31 := Nat.pow_lt_pow_right (by decide) (by omega)
    have e2 : (nI (ones13 (s &&& 2047)) ≤ nI (2 ^ (m + 1))) = (ones13 (s &&& 2047) ≤ 2 ^ (m + 1)) := nI_le' (by omega) p13
    unfold F_X7_sorts F_X7_beginning
    rw [bitc hs, xbP_some, show nI s &&& (2047 : Int32) = nI (s &&& 2047) from i_and s 2047, bitc (and_lt hs), xbP_some, shl_t (m + 1) (by omega)]
    simp only [e1, e2]
    by_cases c : 1 < ones13 s
    · have nz : ¬ nI (m + 1) = (0 : Int32) := by rw [show (0 : Int32) = nI 0 from rfl, nI_eq (by omega) (by decide)]; omega
      rw [if_pos c, if_neg nz]
      have bl := begin_l (hi := hi) (hl := hl) (r := r) (S := F_X7_sorts n) (s := s) (m := m) hs (by omega) h84 (fun t ht => ih n t (by omega) (by omega) ht) 26 1000000 0 (by omega) (by omega)
      rw [show nI 0 = (0 : Int32) from rfl] at bl
      have si := sorts_iff (m := m) hs (by omega) (by omega)
      by_cases c2 : ones13 (s &&& 2047) ≤ 2 ^ (m + 1)
      · rw [if_pos c2]
        rcases bl with ⟨b, h1, h2, h3, h4, h5⟩ | ⟨h1, h2⟩
        · rw [h5, xbI_some, if_neg (nm20 h2), b1_t (si.mpr ⟨b, h2, h3⟩)]
        · rw [h2, xbI_some, if_pos rfl, b1_f (fun q => by
            obtain ⟨b, k1, k2⟩ := si.mp q
            exact h1 b (by omega) k1 k2)]
      · rw [if_neg c2, b1_f (fun q => c2 (pt_info (m + 1) s hs (by omega) q))]
    · rw [if_neg c, b1_t (by rw [pt_small (by omega)]; omega)]
theorem least_c (h84 : ∀ j, j < 26 → hi 84 j = xwell.getD j 0) {s : Nat} (hs : s < 8192) (e : hi 83 1 = nI s) : F_X7_leastTries hi hl r = some (nI (pt s), hi, hl, r) := by
  have h12 := pt_12 hs
  have key : ∀ d n m, m + d = 13 → d < n → m ≤ pt s → F_X7_leastTries_2 n (nI m) hi hl r = some (nI (pt s), hi, hl, r) := by
    intro d
    induction d with
    | zero => intro n m hmd hn hm; omega
    | succ d ih =>
      intro n m hmd hn hm
      obtain ⟨n, rfl⟩ : ∃ q, n = q + 1 := ⟨n - 1, by omega⟩
      have g : ¬ (13 : Int32) ≤ nI m := by rw [show (13 : Int32) = nI 13 from rfl, nI_leI (by omega) (by omega)]; omega
      unfold F_X7_leastTries_2
      rw [if_neg g, e, sorts_c h84 m 14 s (by omega) (by omega) hs, xbI_some, show nI m + 1 = nI (m + 1) from nI_1 m]
      by_cases c : pt s ≤ m
      · rw [b1_t c, if_neg (by decide), show m = pt s by omega]
      · rw [b1_f c, if_pos rfl]
        exact ih n (m + 1) (by omega) (by omega) (by omega)
  exact key 13 1000000 0 (by omega) (by omega) (by omega)
/-- the first try there may be -/
theorem firstTry_c (h84 : ∀ j, j < 26 → hi 84 j = xwell.getD j 0) {s : Nat} (hs : s < 8192) (e : hi 83 1 = nI s) : (ones13 s < 2 ∧ F_X7_firstTry hi hl r = some (-20, hi, hl, r)) ∨ (¬ ones13 s < 2 ∧ ∃ b, b < 26 ∧ 1 + xwb pt s b = pt s ∧ (∀ c, c < b → ¬ 1 + xwb pt s c = pt s) ∧ F_X7_firstTry hi hl r = some (nI b, hi, hl, r)) := by
  have h12 := pt_12 hs
  unfold F_X7_firstTry
  rw [least_c h84 hs e, xbI_some]
  by_cases c : ones13 s < 2
  · refine Or.inl ⟨c, ?_⟩
    rw [pt_small c, if_pos (show nI 0 = (0 : Int32) from rfl)]
  · refine Or.inr ⟨c, ?_⟩
    have hp := pt_pos hs c
    obtain ⟨m, hm⟩ : ∃ m, pt s = m + 1 := ⟨pt s - 1, by omega⟩
    have nz : ¬ nI (m + 1) = (0 : Int32) := by rw [show (0 : Int32) = nI 0 from rfl, nI_eq (by omega) (by decide)]; omega
    have bl := begin_l (hi := hi) (hl := hl) (r := r) (S := F_X7_sorts 14) (s := s) (m := m) hs (by omega) h84 (fun t ht => sorts_c h84 m 14 t (by omega) (by omega) ht) 26 1000000 0 (by omega) (by omega)
    rw [show nI 0 = (0 : Int32) from rfl] at bl
    rcases bl with ⟨b, h1, h2, h3, h4, h5⟩ | ⟨h1, h2⟩
    · refine ⟨b, h2, (first_iff hs c hm h2).mp h3, fun x hx q => h4 x (by omega) hx ((first_iff hs c hm (by omega)).mpr q), ?_⟩
      unfold F_X7_beginning
      rw [hm, if_neg nz, e, h5, xbI_some]
    · obtain ⟨b, k1, k2⟩ := (sorts_iff (m := m) hs c (by omega)).mp (by omega)
      exact absurd k2 (h1 b (by omega) k1)
end FEWC
