/-! forget, drops, clear, back, undo, looks, bank -/
theorem lft_0 (st sc : Nat → Nat) : lft 0 st sc = 8191 := by
  unfold lft
  simp
  decide
theorem op_forget : xOpI xInv F_X11_forget F_X12_forget := by
  intro hi hl r h
  have h0 := h
  obtain ⟨nb, bk, bz, ck, cn, nv, vb, vf, vs, vc, vk, ch, bo, tk, tn, P, nx, G, ln, lp, md, mt, sn, st, sc, h1, h2, h3, h4, h5, h6, h7, h8, h9⟩ := h
  obtain ⟨s1, s2, s3, s4, s5, s6⟩ := h8
  have hn : ∀ a, a ∉ [83, 90] → (xu (xu (xu (xu hi 83 2 (0 : Int32)) 83 1 8191) 90 0 0) 90 26 0) a = hi a := by
    intro a ha
    simp only [List.mem_cons, List.not_mem_nil, or_false, not_or] at ha
    rw [xu_ne _ _ _ ha.2, xu_ne _ _ _ ha.2, xu_ne _ _ _ ha.1, xu_ne _ _ _ ha.1]
  have hp : ∀ i, i ∉ [0, 26] → (xu (xu (xu (xu hi 83 2 (0 : Int32)) 83 1 8191) 90 0 0) 90 26 0) 90 i = hi 90 i := by
    intro i hi9
    simp only [List.mem_cons, List.not_mem_nil, or_false, not_or] at hi9
    rw [xu_ne2 _ _ (Or.inr hi9.2), xu_ne2 _ _ (Or.inr hi9.1), xu_ne2 _ _ (Or.inl (by decide)), xu_ne2 _ _ (Or.inl (by decide))]
  have hnl : ∀ a, a ∉ ([] : List Nat) → hl a = hl a := fun _ _ => rfl
  have hpl : hl 90 14 = hl 90 14 := rfl
  refine ⟨nI sn, (xu (xu hi 83 2 0) 83 1 8191, hl, r), (xu (xu (xu (xu hi 83 2 0) 83 1 8191) 90 0 0) 90 26 0, hl, r), ?_, ?_, ?_⟩
  · unfold F_X11_forget F_X7_lose
    rw [xbI_some, s2]
  · unfold F_X12_forget
    simp only
    rw [xu_ne2 _ _ (Or.inr (by decide)), xu_ne2 _ _ (Or.inl (by decide)), xu_ne2 _ _ (Or.inl (by decide)), s3]
  · refine ⟨nb, bk, bz, ck, cn, nv, vb, vf, vs, vc, vk, ch, bo, tk, tn, P, nx, G, ln, lp, md, mt, 0, st, sc, h1.tr (lx hn (by decide)) (hp 1 (by decide)) (lx hnl (by decide)), h2.tr (lx hn (by decide)) (hp 6 (by decide)), h3.tr (hn 85 (by decide)) (hnl 85 (by decide)) (hp 13 (by decide)) hpl, h4.tr (fun a g1 g2 => hn a (by simp <;> omega)) (lx hn (by decide)) (hp 15 (by decide)) (fun a g1 g2 => hnl a (by simp <;> omega)) (hnl 103 (by decide)), h5.tr (lx hn (by decide)) (lx hnl (by decide)), h6.tr (hn 30 (by decide)) (hn 31 (by decide)) (hn 107 (by decide)) (hp 22 (by decide)), h7.tr (lx hn (by decide)), ?_, h9.tr (hn 121 (by decide)) (hn 112 (by decide)) (hp 29 (by decide))⟩
    refine ⟨by omega, ?_, ?_, ?_, ?_, fun j hj => absurd hj (by omega)⟩
    · simp [xu]; rfl
    · simp [xu]; rfl
    · rw [lft_0]; simp [xu]; rfl
    · intro j hj; show (xu (xu (xu (xu hi 83 2 (0 : Int32)) 83 1 8191) 90 0 0) 90 26 0) 84 j = _; rw [hn 84 (by decide)]; exact s5 j hj
theorem opens_c {k : Nat} (hk : k ≤ 6) : F_X4_opens (nI k) = some (if k = 5 then 1 else if k = 6 then -1 else 0) := by
  rcases (show k = 0 ∨ k = 1 ∨ k = 2 ∨ k = 3 ∨ k = 4 ∨ k = 5 ∨ k = 6 by omega) with rfl | rfl | rfl | rfl | rfl | rfl | rfl <;> decide
theorem nI_s1 {m : Nat} (hm : m < 2 ^ 29) : nI (m + 1) - 1 = nI m := by
  apply Int32.toInt_inj.mp
  have := pk_sub_toInt (a := m + 1) (b := 1) (by omega) (by decide)
  rw [nI_toInt (by omega)]
  refine this.trans ?_
  omega
theorem op_drops : xOpI xInv F_X11_drops F_X12_drops := by
  intro hi hl r h
  have h0 := h
  obtain ⟨nb, bk, bz, ck, cn, nv, vb, vf, vs, vc, vk, ch, bo, tk, tn, P, nx, G, ln, lp, md, mt, sn, st, sc, h1, h2, h3, h4, h5, h6, h7, h8, h9⟩ := h
  obtain ⟨l1, l2, l3, l4, l5, l6, l7⟩ := h6
  rcases Nat.eq_zero_or_pos ln with h9' | h9'
  · subst h9'
    refine ⟨-2, (hi, hl, r), (xu hi 90 0 0, hl, r), ?_, ?_, h0.th⟩
    · unfold F_X11_drops
      rw [l2, if_pos (by decide)]
    · unfold F_X12_drops
      simp only
      rw [xu_ne2 _ _ (Or.inr (by decide)), l3, if_pos (by decide)]
  · obtain ⟨m, rfl⟩ : ∃ m, ln = m + 1 := ⟨ln - 1, by omega⟩
    have em : nI (m + 1) - 1 = nI m := nI_s1 (by omega)
    have z0 : ¬ nI (m + 1) = (0 : Int32) := by
      rw [show (0 : Int32) = nI 0 from rfl, nI_eq' (by omega) (by decide)]
      omega
    generalize hA : xu hi 30 2 (nI m) = hiA
    have a1 : hiA 30 2 = nI m := by rw [← hA, xu_at]
    have a2 : hiA 30 3 = nI (opn lp (m + 1)) := by rw [← hA, xu_ne2 _ _ (Or.inr (by decide)), l4]
    have a3 : ∀ a, a ≠ 30 → hiA a = hi a := fun a ha => by rw [← hA, xu_ne _ _ _ ha]
    obtain ⟨p1, p2, p3, p4⟩ := l6 m (by omega)
    have o1 := l7 m (by omega)
    have o2 := l7 (m + 1) (by omega)
    have pt1 : F_X4_part (nI m) 0 hiA hl r = some (nI (lp (5 * m)), hiA, hl, r) := by
      have := part_c (hi := hiA) (hl := hl) (r := r) (ln := m + 1) (i := m) (j := 0) (lp := lp) (fun k hk => by rw [a3 31 (by decide), a3 107 (by decide)]; exact l5 k hk) l1 (by omega) (by decide)
      exact this
    have eo : nI (opn lp (m + 1)) - (if lp (5 * m) = 5 then 1 else if lp (5 * m) = 6 then -1 else 0) = nI (opn lp m) := by
      simp only [opn] at o2 ⊢
      by_cases c5 : lp (5 * m) = 5
      · simp only [if_pos c5]
        exact nI_s1 (by omega)
      · simp only [if_neg c5]
        by_cases c6 : lp (5 * m) = 6
        · simp only [if_pos c6]
          have hpos := (p4 c6).1
          obtain ⟨o, ho⟩ : ∃ o, opn lp m = o + 1 := ⟨opn lp m - 1, by omega⟩
          rw [ho]
          rcases (show o = 0 ∨ o = 1 ∨ o = 2 by omega) with rfl | rfl | rfl <;> decide
        · simp only [if_neg c6]
          rcases (show opn lp m = 0 ∨ opn lp m = 1 ∨ opn lp m = 2 ∨ opn lp m = 3 by omega) with e | e | e | e <;> rw [e] <;> decide
    generalize hB : xu hiA 30 3 (nI (opn lp m)) = hiB
    have b1 : hiB 30 2 = nI m := by rw [← hB, xu_ne2 _ _ (Or.inr (by decide)), a1]
    have b2 : hiB 30 3 = nI (opn lp m) := by rw [← hB, xu_at]
    have b3 : ∀ a, a ≠ 30 → hiB a = hi a := fun a ha => by rw [← hB, xu_ne _ _ _ ha, a3 a ha]
    refine ⟨nI m, (hiB, hl, r), (xu (xu hiB 90 0 0) 90 22 (nI m), hl, r), ?_, ?_, ?_⟩
    · unfold F_X11_drops F_X4_dropLast
      rw [l2, if_neg z0, em, hA, a1, pt1, xbI_some, opens_c p1, xbP_some, a2, eo, hB, b1, xbI_some]
    · unfold F_X12_drops
      simp only
      rw [xu_ne2 _ _ (Or.inr (by decide)), b3 90 (by decide), l3, if_neg z0, em, xu_at]
    · have hn : ∀ a, a ∉ [30, 90] → (xu (xu hiB 90 0 0) 90 22 (nI m)) a = hi a := by
        intro a ha
        simp only [List.mem_cons, List.not_mem_nil, or_false, not_or] at ha
        rw [xu_ne _ _ _ ha.2, xu_ne _ _ _ ha.2, b3 a ha.1]
      have hp : ∀ i, i ∉ [0, 22] → (xu (xu hiB 90 0 0) 90 22 (nI m)) 90 i = hi 90 i := by
        intro i hi9
        simp only [List.mem_cons, List.not_mem_nil, or_false, not_or] at hi9
        rw [xu_ne2 _ _ (Or.inr hi9.2), xu_ne2 _ _ (Or.inr hi9.1), b3 90 (by decide)]
      have hnl : ∀ a, a ∉ ([] : List Nat) → hl a = hl a := fun _ _ => rfl
      have hpl : hl 90 14 = hl 90 14 := rfl
      refine ⟨nb, bk, bz, ck, cn, nv, vb, vf, vs, vc, vk, ch, bo, tk, tn, P, nx, G, m, lp, md, mt, sn, st, sc, h1.tr (lx hn (by decide)) (hp 1 (by decide)) (lx hnl (by decide)), h2.tr (lx hn (by decide)) (hp 6 (by decide)), h3.tr (hn 85 (by decide)) (hnl 85 (by decide)) (hp 13 (by decide)) hpl, h4.tr (fun a g1 g2 => hn a (by simp <;> omega)) (lx hn (by decide)) (hp 15 (by decide)) (fun a g1 g2 => hnl a (by simp <;> omega)) (hnl 103 (by decide)), h5.tr (lx hn (by decide)) (lx hnl (by decide)), ?_, h7.tr (lx hn (by decide)), h8.tr (lx hn (by decide)) (hp 26 (by decide)), h9.tr (hn 121 (by decide)) (hn 112 (by decide)) (hp 29 (by decide))⟩
      refine ⟨by omega, ?_, ?_, ?_, ?_, fun i hi9 => l6 i (by omega), fun i hi9 => l7 i (by omega)⟩
      · show (xu (xu hiB 90 0 0) 90 22 (nI m)) 30 2 = _
        rw [xu_ne2 _ _ (Or.inl (by decide)), xu_ne2 _ _ (Or.inl (by decide)), b1]
      · show (xu (xu hiB 90 0 0) 90 22 (nI m)) 90 22 = _; exact xu_at _ _ _ _
      · show (xu (xu hiB 90 0 0) 90 22 (nI m)) 30 3 = _
        rw [xu_ne2 _ _ (Or.inl (by decide)), xu_ne2 _ _ (Or.inl (by decide)), b2]
      · intro k hk
        show (xu (xu hiB 90 0 0) 90 22 (nI m)) 31 k = _ ∧ (xu (xu hiB 90 0 0) 90 22 (nI m)) 107 k = _
        rw [hn 31 (by decide), hn 107 (by decide)]
        exact l5 k (by omega)
/-- two rows of seven made nothing -/
theorem zero7 {F : Nat → Int32 → Int32 → (Nat → Nat → Int32) → (Nat → Nat → Int64) → xRr → Option (Int32 × xSt)} {a b : Nat} (hab : a ≠ b) (hF : ∀ n v1 v2 hi hl r, F (n + 1) v1 v2 hi hl r = if (7 : Int32) ≤ v2 then some (v1, hi, hl, r) else if xok v2 7 = true then F n v1 (v2 + 1) (xu (xu hi a (Int32.toNatClampNeg v2) 0) b (Int32.toNatClampNeg v2) 0) hl r else none) (v1 : Int32) (hi : Nat → Nat → Int32) (hl : Nat → Nat → Int64) (r : xRr) :
    F 1000000 v1 0 hi hl r = some (v1, xfill (xfill hi a 0 7 (fun _ => 0)) b 0 7 (fun _ => 0), hl, r) := by
  have key : ∀ k n i, i + k = 7 → k < n → F n v1 (nI i) (xfill (xfill hi a 0 i (fun _ => 0)) b 0 i (fun _ => 0)) hl r = some (v1, xfill (xfill hi a 0 7 (fun _ => 0)) b 0 7 (fun _ => 0), hl, r) := by
    intro k
    induction k with
    | zero =>
      intro n i hik hn
      obtain ⟨n, rfl⟩ : ∃ q, n = q + 1 := ⟨n - 1, by omega⟩
      have : i = 7 := by omega
      subst this
      rw [hF, if_pos (by decide)]
    | succ k ih =>
      intro n i hik hn
      obtain ⟨n, rfl⟩ : ∃ q, n = q + 1 := ⟨n - 1, by omega⟩
      have g : ¬ (7 : Int32) ≤ nI i := by
        rw [show (7 : Int32) = nI 7 from rfl, nI_leI (by omega) (by omega)]
        omega
      rw [hF, if_neg g, if_pos (xok_t (by omega) (by decide)), cl_nI (by omega), show nI i + 1 = nI (i + 1) from nI_1 i, ← ih n (i + 1) (by omega) (by omega)]
      congr 1
      funext x j
      simp only [xu, xfill]
      by_cases hxb : x = b
      · subst hxb
        have : ¬ x = a := fun e => hab e.symm
        by_cases hj : j = i
        · simp [this, hj]
        · simp only [true_and, hj, if_false, this, false_and]
          by_cases h2 : j < 0 + i
          · rw [if_pos (by omega), if_pos (by omega)]
          · rw [if_neg (by omega), if_neg (by omega)]
      · simp only [hxb, false_and, if_false]
        by_cases hxa : x = a
        · simp only [hxa, true_and]
          by_cases hj : j = i
          · rw [if_pos hj, if_pos (by omega)]
          · rw [if_neg hj]
            by_cases h2 : j < 0 + i
            · rw [if_pos (by omega), if_pos (by omega)]
            · rw [if_neg (by omega), if_neg (by omega)]
        · simp [hxa]
  have h1 := key 7 1000000 0 (by decide) (by decide)
  rw [xfill_0, xfill_0] at h1
  exact h1
theorem op_clear : xOpI xInv F_X11_clear F_X12_clear := by
  intro hi hl r h
  have h0 := h
  obtain ⟨nb, bk, bz, ck, cn, nv, vb, vf, vs, vc, vk, ch, bo, tk, tn, P, nx, G, ln, lp, md, mt, sn, st, sc, h1, h2, h3, h4, h5, h6, h7, h8, h9⟩ := h
  generalize hA : (xu (xu (xu (xu (xu hi 1 4 (0 : Int32)) 6 8 0) 30 2 0) 30 3 0) 41 3 0) = hiA
  generalize hB : xu (xu (xu (xu (xu hiA 77 2 (-20 : Int32)) 80 2 (-20)) 83 2 0) 83 1 8191) 85 0 10 = hiB
  generalize hC : xfill (xfill hiB 87 0 7 (fun _ => (0 : Int32))) 88 0 7 (fun _ => 0) = hiC
  generalize hD : (xu (xu (xu (xu (xu (xu (xu (xu (xu hiC 90 0 (0 : Int32)) 90 1 0) 90 6 0) 90 13 (-20)) 90 15 0) 90 22 0) 90 26 0) 106 0 (-20)) 106 1 (-20)) = hiD
  generalize hE : xfill (xfill hiD 108 0 7 (fun _ => (0 : Int32))) 109 0 7 (fun _ => 0) = hiE
  have c1 : hiC 90 1 = nI nb := by
    rw [← hC, xfill_out _ _ _ _ _ (Or.inl (by decide)), xfill_out _ _ _ _ _ (Or.inl (by decide)), ← hB, ← hA]
    simp [xu]
    exact h1.2.2.1
  have lose : ∀ n, F_X11_clear_40 (n + 1 + 1 + 1) (nI nb) 0 hiA hl r = some (nI nb, hiC, xu hl 85 1 0, r) := by
    intro n
    unfold F_X11_clear_40
    rw [if_neg (by decide), if_pos (by decide)]
    show xbO (some 77) _ = _
    rw [xbO_some, if_pos (by decide)]
    unfold F_X2_lose
    rw [if_pos (by decide), xbV_some]
    show F_X11_clear_40 (n + 1 + 1) (nI nb) 1 _ _ _ = _
    unfold F_X11_clear_40
    rw [if_neg (by decide), if_pos (by decide)]
    show xbO (some 80) _ = _
    rw [xbO_some, if_pos (by decide)]
    unfold F_X2_lose
    rw [if_pos (by decide), xbV_some]
    show F_X11_clear_40 (n + 1) (nI nb) 2 _ _ _ = _
    unfold F_X11_clear_40
    rw [if_pos (by decide)]
    unfold F_X7_lose
    rw [xbI_some]
    unfold F_X6_become
    have rz : F_X3_rounded 0 10 = some 0 := by
      have := rounded_c (v := 0) (k := 10) (by decide)
      rw [show nI 10 = (10 : Int32) from rfl] at this
      rw [this]
      decide
    rw [if_pos (by decide), rz, xbP_some, xbV_some, hB, zero7 (F := F_X11_clear_80) (a := 87) (b := 88) (by decide) (fun _ _ _ _ _ _ => rfl), hC]
  refine ⟨nI nb, (hiC, xu hl 85 1 0, r), (hiE, xu (xu hl 85 1 0) 90 14 0, r), ?_, ?_, ?_⟩
  · unfold F_X11_clear F_X4_empty
    rw [xbV_some]
    unfold F_X1_lose
    rw [xbV_some, h1.2.1, hA]
    exact lose 999997
  · unfold F_X12_clear
    simp only
    rw [if_pos (by decide), if_pos (by decide), xu_ne2 _ _ (Or.inr (by decide)), c1]
    show F_X12_clear_64 1000000 (nI nb) 0 (xu (xu (xu (xu (xu (xu (xu (xu (xu hiC 90 0 (0 : Int32)) 90 1 0) 90 6 0) 90 13 (-20)) 90 15 0) 90 22 0) 90 26 0) 106 0 (-20)) 106 1 (-20)) _ _ = _
    rw [hD, zero7 (F := F_X12_clear_64) (a := 108) (b := 109) (by decide) (fun _ _ _ _ _ _ => rfl), hE]
  · have rd : ∀ a j, hiE a j = if a = 109 ∧ j < 7 then 0 else if a = 108 ∧ j < 7 then 0 else if a = 106 ∧ j = 1 then -20 else if a = 106 ∧ j = 0 then -20 else if a = 90 ∧ j = 26 then 0 else if a = 90 ∧ j = 22 then 0 else if a = 90 ∧ j = 15 then 0 else if a = 90 ∧ j = 13 then -20 else if a = 90 ∧ j = 6 then 0 else if a = 90 ∧ j = 1 then 0 else if a = 90 ∧ j = 0 then 0 else if a = 88 ∧ j < 7 then 0 else if a = 87 ∧ j < 7 then 0 else if a = 85 ∧ j = 0 then 10 else if a = 83 ∧ j = 1 then 8191 else if a = 83 ∧ j = 2 then 0 else if a = 80 ∧ j = 2 then -20 else if a = 77 ∧ j = 2 then -20 else if a = 41 ∧ j = 3 then 0 else if a = 30 ∧ j = 3 then 0 else if a = 30 ∧ j = 2 then 0 else if a = 6 ∧ j = 8 then 0 else if a = 1 ∧ j = 4 then 0 else hi a j := by
      intro a j
      rw [← hE, ← hD, ← hC, ← hB, ← hA]
      simp only [xfill, xu, Nat.zero_le, true_and, Nat.zero_add]
    refine ⟨0, bk, bz, ck, cn, 0, vb, vf, vs, vc, vk, ch, bo, 10, 0, [], nx, fun _ => none, 0, lp, fun _ => 0, fun _ => 0, 0, st, sc, ?_, ?_, ?_, ?_, ?_, ?_, ?_, ?_, ?_⟩
    · refine ⟨by omega, ?_, ?_, fun b hb => absurd hb (by omega), fun k hk => absurd hk (by omega)⟩
      · show hiE 1 4 = _; rw [rd]; rfl
      · show hiE 90 1 = _; rw [rd]; rfl
    · refine ⟨by omega, ?_, ?_, fun b hb => absurd hb (by omega)⟩
      · show hiE 6 8 = _; rw [rd]; rfl
      · show hiE 90 6 = _; rw [rd]; rfl
    · refine ⟨by omega, ?_, ?_, ?_, ?_⟩
      · show hiE 85 0 = _; rw [rd]; rfl
      · show (xu (xu hl 85 1 0) 90 14 0) 85 1 = _; rw [xu_ne2 _ _ (Or.inl (by decide)), xu_at]
      · show hiE 90 13 = _; rw [rd]; rfl
      · show (xu (xu hl 85 1 0) 90 14 0) 90 14 = _; exact xu_at _ _ _ _
    · refine ⟨by simp, h4.2.1, ?_, ?_, ?_, h4.2.2.2.2.2.1, fun i s hs => by simp at hs⟩
      · show hiE 41 2 = _
        rw [rd]
        exact h4.2.2.1
      · show hiE 41 3 = _; rw [rd]; rfl
      · show hiE 90 15 = _; rw [rd]; rfl
    · intro j hj
      rcases (show j = 0 ∨ j = 1 by omega) with rfl | rfl
      · refine ⟨?_, ?_⟩
        · show hiE 77 2 = _; rw [rd]; rfl
        · show hiE 106 0 = _; rw [rd]; rfl
      · refine ⟨?_, ?_⟩
        · show hiE 80 2 = _; rw [rd]; rfl
        · show hiE 106 1 = _; rw [rd]; rfl
    · refine ⟨by omega, ?_, ?_, ?_, fun k hk => absurd hk (by omega), fun i hi9 => absurd hi9 (by omega), fun i hi9 => ?_⟩
      · show hiE 30 2 = _; rw [rd]; rfl
      · show hiE 90 22 = _; rw [rd]; rfl
      · show hiE 30 3 = _; rw [rd]; rfl
      · have : i = 0 := by omega
        subst this
        simp [opn]
    · intro j hj
      refine ⟨Nat.zero_le _, Nat.zero_le _, ?_, ?_, ?_, ?_⟩
      · show hiE 87 j = _; rw [rd]; simp [hj]; rfl
      · show hiE 108 j = _; rw [rd]; simp [hj]; rfl
      · show hiE 88 j = _; rw [rd]; simp [hj]; rfl
      · show hiE 109 j = _; rw [rd]; simp [hj]; rfl
    · refine ⟨by omega, ?_, ?_, ?_, fun j hj => ?_, fun j hj => absurd hj (by omega)⟩
      · show hiE 83 2 = _; rw [rd]; rfl
      · show hiE 90 26 = _; rw [rd]; rfl
      · show hiE 83 1 = _; rw [rd, lft_0]; rfl
      · show hiE 84 j = _; rw [rd]; simp; exact h8.2.2.2.2.1 j hj
    · refine h9.tr ?_ ?_ ?_
      · funext j; show hiE 121 j = _; rw [rd]; simp
      · funext j; show hiE 112 j = _; rw [rd]; simp
      · show hiE 90 29 = _; rw [rd]; rfl
