/-! back, undo, looks, bank -/
theorem IB.back {nb : Nat} {bk bz ck : Nat → Nat} {cn : Nat → Int64} {hi hi' : Nat → Nat → Int32} {hl hl' : Nat → Nat → Int64} {s : xSn} (h : IB nb bk bz ck cn hi hl) (hs : okcs nb bk s) (hr : ∀ a, a ∈ [1, 2, 5, 91, 92] → hi' a = hi a) (hp : hi' 90 1 = hi 90 1)
    (c1 : ∀ j, hi' 3 j = if j < 12 * s.1 then nI (s.2.1 j) else hi 3 j) (c2 : ∀ j, hi' 93 j = if j < 12 * s.1 then nI (s.2.1 j) else hi 93 j) (c3 : ∀ j, hl' 4 j = if j < 12 * s.1 then s.2.2 j else hl 4 j) (c4 : ∀ j, hl' 94 j = if j < 12 * s.1 then s.2.2 j else hl 94 j) :
    IB nb bk bz (fun j => if j < 12 * s.1 then s.2.1 j else ck j) (fun j => if j < 12 * s.1 then s.2.2 j else cn j) hi' hl' := by
  obtain ⟨g1, g2, g3, g4, g5⟩ := h
  refine ⟨g1, by rw [hr 1 (by decide)]; exact g2, by rw [hp]; exact g3, ?_, ?_⟩
  · rw [hr 2 (by decide), hr 5 (by decide), hr 91 (by decide), hr 92 (by decide)]
    exact g4
  · intro k hk
    rw [c1, c2, c3, c4]
    by_cases c : k < 12 * s.1
    · simp only [if_pos c]
      exact ⟨trivial, trivial, trivial, trivial, hs.2 k c⟩
    · simp only [if_neg c]
      exact g5 k hk
theorem xfill_if {α : Type} (f : Nat → Nat → α) (a n : Nat) (v w : Nat → α) (hv : ∀ j, j < n → v j = w j) (j : Nat) : xfill f a 0 n v a j = if j < n then w j else f a j := by
  by_cases h : j < n
  · rw [if_pos h, xfill_in _ _ _ _ _ (by omega) (by omega), hv j h]
  · rw [if_neg h, xfill_out _ _ _ _ _ (by omega)]
theorem op_back (a0 : Int32) : xOpI xInv (F_X11_back a0) (F_X12_back a0) := by
  intro hi hl r h
  have h0 := h
  obtain ⟨nb, bk, bz, ck, cn, nv, vb, vf, vs, vc, vk, ch, bo, tk, tn, P, nx, G, ln, lp, md, mt, sn, st, sc, h1, h2, h3, h4, h5, h6, h7, h8, h9⟩ := h
  have hnb := h1.1
  rcases rng a0 (n := 2) (by decide) with ⟨g, hg, rfl, eg⟩ | hb
  · have hT : isT (77 + 3 * g) := by
      unfold isT
      rcases (show g = 0 ∨ g = 1 by omega) with rfl | rfl <;> decide
    have e76 : xhr r 76 g = some (77 + 3 * g) := by rcases (show g = 0 ∨ g = 1 by omega) with rfl | rfl <;> rfl
    obtain ⟨o1, -⟩ := hT.o r
    have h5g := h5 g hg
    cases hG : G g with
    | none =>
      rw [hG] at h5g
      simp only at h5g
      refine ⟨-2, (hi, hl, r), (xu hi 90 0 0, hl, r), ?_, ?_, h0.th⟩
      · unfold F_X11_back
        rw [wi eg hg (by decide), xbP_some, if_neg (by decide), if_pos (xok_t hg (by decide)), cl_nI (by omega), e76, xbO_some, if_pos o1, if_pos h5g.1]
      · unfold F_X12_back
        simp only
        rw [ii eg hg (by decide), xbP_some, if_neg (by decide), if_pos (xok_t hg (by decide)), cl_nI (by omega), xu_ne2 _ _ (Or.inl (by decide)), if_pos h5g.2]
    | some s =>
      rw [hG] at h5g
      simp only at h5g
      obtain ⟨q1, q2, q3, q4⟩ := h5g
      have hm : s.1 ≤ 6 := Nat.le_trans q1.1 hnb
      have nz : ¬ nI s.1 = (-20 : Int32) := by
        rcases (show s.1 = 0 ∨ s.1 = 1 ∨ s.1 = 2 ∨ s.1 = 3 ∨ s.1 = 4 ∨ s.1 = 5 ∨ s.1 = 6 by omega) with e | e | e | e | e | e | e <;> rw [e] <;> decide
      have rs := restore_c (hi := hi) (hl := hl) (r := r) hT q2.1 hm
      generalize hA : xfill hi 3 0 (12 * s.1) (hi (77 + 3 * g + 1)) = hiA at rs
      generalize hB : xfill hl 4 0 (12 * s.1) (hl (77 + 3 * g + 2)) = hlB at rs
      have nA : ∀ a, a ≠ 3 → hiA a = hi a := fun a ha => by rw [← hA, xfill_ne _ _ _ _ ha]
      have nB : ∀ a, a ≠ 4 → hlB a = hl a := fun a ha => by rw [← hB, xfill_ne _ _ _ _ ha]
      have e106 : (xu (xu hiA 41 3 (0 : Int32)) 90 0 0) 106 g = nI s.1 := by
        rw [xu_ne2 _ _ (Or.inl (by decide)), xu_ne2 _ _ (Or.inl (by decide)), nA _ (by decide), q3]
      have cb := copyBack_m (hi := xu (xu hiA 41 3 (0 : Int32)) 90 0 0) (hl := hlB) (r := r) (a := 104) (b := 105) (lo := 72 * g) (m := 12 * s.1) (N := 144) (by decide) (by decide) (by decide) (by decide) (by omega) (by omega) (by decide) (by decide) (by decide)
      generalize hC : xfill (xu (xu hiA 41 3 (0 : Int32)) 90 0 0) 93 0 (12 * s.1) (fun j => (xu (xu hiA 41 3 (0 : Int32)) 90 0 0) 104 (72 * g + j)) = hiC at cb
      generalize hD : xfill hlB 94 0 (12 * s.1) (fun j => hlB 105 (72 * g + j)) = hlD at cb
      have nC : ∀ a, a ∉ [3, 41, 90, 93] → hiC a = hi a := by
        intro a ha
        simp only [List.mem_cons, List.not_mem_nil, or_false, not_or] at ha
        rw [← hC, xfill_ne _ _ _ _ ha.2.2.2, xu_ne _ _ _ ha.2.2.1, xu_ne _ _ _ ha.2.1, nA a ha.1]
      refine ⟨nI s.1, (xu hiA 41 3 0, hlB, r), (xu hiC 90 15 0, hlD, r), ?_, ?_, ?_⟩
      · unfold F_X11_back
        rw [wi eg hg (by decide), xbP_some, if_neg (by decide), if_pos (xok_t hg (by decide)), cl_nI (by omega), e76, xbO_some, if_pos o1, q2.1, if_neg nz, xbO_some, if_pos o1, rs, xbV_some]
        unfold F_X1_lose
        rw [xbV_some, e76, xbO_some, if_pos o1, xu_ne2 _ _ (Or.inl (by omega)), nA _ (by omega), q2.1]
      · unfold F_X12_back
        simp only
        rw [ii eg hg (by decide), xbP_some, if_neg (by decide), if_pos (xok_t hg (by decide)), cl_nI (by omega), e106, if_neg nz, nI_72mul, nI_12mul, cb, xbV_some, xu_ne2 _ _ (Or.inl (by decide)), nC _ (by decide), q3]
      · have hn : ∀ a, a ∉ [3, 41, 90, 93] → (xu hiC 90 15 (0 : Int32)) a = hi a := by
          intro a ha
          have ha' := ha
          simp only [List.mem_cons, List.not_mem_nil, or_false, not_or] at ha'
          rw [xu_ne _ _ _ ha'.2.2.1, nC a ha]
        have p41 : ∀ j, j ≠ 3 → (xu hiC 90 15 (0 : Int32)) 41 j = hi 41 j := by
          intro j hj
          rw [xu_ne2 _ _ (Or.inl (by decide)), ← hC, xfill_out _ _ _ _ _ (Or.inl (by decide)), xu_ne2 _ _ (Or.inl (by decide)), xu_ne2 _ _ (Or.inr hj), nA 41 (by decide)]
        have hp : ∀ i, i ∉ [0, 15] → (xu hiC 90 15 (0 : Int32)) 90 i = hi 90 i := by
          intro i hi9
          simp only [List.mem_cons, List.not_mem_nil, or_false, not_or] at hi9
          rw [xu_ne2 _ _ (Or.inr hi9.2), ← hC, xfill_out _ _ _ _ _ (Or.inl (by decide)), xu_ne2 _ _ (Or.inr hi9.1), xu_ne2 _ _ (Or.inl (by decide)), nA 90 (by decide)]
        have hnl : ∀ a, a ∉ [4, 94] → hlD a = hl a := by
          intro a ha
          simp only [List.mem_cons, List.not_mem_nil, or_false, not_or] at ha
          rw [← hD, xfill_ne _ _ _ _ ha.2, nB a ha.1]
        have hpl : hlD 90 14 = hl 90 14 := by rw [hnl 90 (by decide)]
        refine ⟨nb, bk, bz, (fun j => if j < 12 * s.1 then s.2.1 j else ck j), (fun j => if j < 12 * s.1 then s.2.2 j else cn j), nv, vb, vf, vs, vc, vk, ch, bo, tk, tn, [], nx, G, ln, lp, md, mt, sn, st, sc, ?_, h2.tr (lx hn (by decide)) (hp 6 (by decide)), h3.tr (hn 85 (by decide)) (hnl 85 (by decide)) (hp 13 (by decide)) hpl, ?_, h5.tr (lx hn (by decide)) (lx hnl (by decide)), h6.tr (hn 30 (by decide)) (hn 31 (by decide)) (hn 107 (by decide)) (hp 22 (by decide)), h7.tr (lx hn (by decide)), h8.tr (lx hn (by decide)) (hp 26 (by decide)), h9.tr (hn 121 (by decide)) (hn 112 (by decide)) (hp 29 (by decide))⟩
        · refine h1.back q1 (lx hn (by decide)) (hp 1 (by decide)) ?_ ?_ ?_ ?_
          · intro j
            show (xu hiC 90 15 (0 : Int32)) 3 j = _
            rw [xu_ne2 _ _ (Or.inl (by decide)), ← hC, xfill_out _ _ _ _ _ (Or.inl (by decide)), xu_ne2 _ _ (Or.inl (by decide)), xu_ne2 _ _ (Or.inl (by decide)), ← hA]
            exact xfill_if _ _ _ _ _ (fun j hj => (q2.2 j hj).1) j
          · intro j
            show (xu hiC 90 15 (0 : Int32)) 93 j = _
            rw [xu_ne2 _ _ (Or.inl (by decide)), ← hC, xfill_if _ _ _ _ (fun j => nI (s.2.1 j)) (fun j hj => by rw [xu_ne2 _ _ (Or.inl (by decide)), xu_ne2 _ _ (Or.inl (by decide)), nA 104 (by decide)]; exact (q4 j hj).1), xu_ne2 _ _ (Or.inl (by decide)), xu_ne2 _ _ (Or.inl (by decide)), nA 93 (by decide)]
          · intro j
            show hlD 4 j = _
            rw [← hD, xfill_out _ _ _ _ _ (Or.inl (by decide)), ← hB]
            exact xfill_if _ _ _ _ _ (fun j hj => (q2.2 j hj).2) j
          · intro j
            show hlD 94 j = _
            rw [← hD, xfill_if _ _ _ _ (fun j => s.2.2 j) (fun j hj => by rw [nB 105 (by decide)]; exact (q4 j hj).2), nB 94 (by decide)]
        · refine ⟨by simp, h4.2.1, ?_, ?_, ?_, h4.2.2.2.2.2.1, fun i s hs => by simp at hs⟩
          · show (xu hiC 90 15 (0 : Int32)) 41 2 = _
            rw [p41 2 (by decide)]
            exact h4.2.2.1
          · show (xu hiC 90 15 (0 : Int32)) 41 3 = _
            rw [xu_ne2 _ _ (Or.inl (by decide)), ← hC, xfill_out _ _ _ _ _ (Or.inl (by decide)), xu_ne2 _ _ (Or.inl (by decide)), xu_at]
            rfl
          · show (xu hiC 90 15 (0 : Int32)) 90 15 = _
            rw [xu_at]
            rfl
  · refine ⟨-1, (hi, hl, r), (xu hi 90 0 0, hl, r), ?_, ?_, h0.th⟩
    · unfold F_X11_back
      rw [wo hb (by decide), xbP_some, if_pos rfl]
    · unfold F_X12_back
      simp only
      rw [io hb (by decide), xbP_some, if_pos rfl]
theorem mod10 {x : Nat} (hx : x < 10) : nI x + 10 - 1 - (nI x + 10 - 1) / 10 * 10 = nI ((x + 9) % 10) := by
  rcases (show x = 0 ∨ x = 1 ∨ x = 2 ∨ x = 3 ∨ x = 4 ∨ x = 5 ∨ x = 6 ∨ x = 7 ∨ x = 8 ∨ x = 9 by omega) with rfl | rfl | rfl | rfl | rfl | rfl | rfl | rfl | rfl | rfl <;> decide
theorem op_undo : xOpI xInv F_X11_undo F_X12_undo := by
  intro hi hl r h
  have h0 := h
  obtain ⟨nb, bk, bz, ck, cn, nv, vb, vf, vs, vc, vk, ch, bo, tk, tn, P, nx, G, ln, lp, md, mt, sn, st, sc, h1, h2, h3, h4, h5, h6, h7, h8, h9⟩ := h
  obtain ⟨u1, u2, u3, u4, u5, u6, u7⟩ := h4
  have hnb := h1.1
  rcases List.eq_nil_or_concat P with hP | ⟨Q, s, hP⟩
  · subst hP
    refine ⟨-2, (hi, hl, r), (xu hi 90 0 0, hl, r), ?_, ?_, h0.th⟩
    · unfold F_X11_undo
      rw [u4, if_pos (by decide)]
    · unfold F_X12_undo
      simp only
      rw [xu_ne2 _ _ (Or.inr (by decide)), u5, if_pos (by decide)]
  · have hP : P = Q ++ [s] := by rw [hP]; simp
    subst hP
    have eL : (Q ++ [s]).length = Q.length + 1 := by simp
    rw [eL] at u1 u4 u5 u7
    obtain ⟨q1, ⟨t, q2, q3⟩, q4, q5⟩ := u7 Q.length s (by simp)
    have z0 : ¬ nI (Q.length + 1) = (0 : Int32) := by
      rw [show (0 : Int32) = nI 0 from rfl, nI_eq' (by omega) (by decide)]
      omega
    have em : nI (Q.length + 1) - 1 = nI Q.length := nI_s1 (by omega)
    have ex : (nx + 10 - (Q.length + 1) + Q.length) % 10 = (nx + 9) % 10 := by
      rw [show nx + 10 - (Q.length + 1) + Q.length = nx + 9 by omega]
    rw [ex] at q2
    have hx10 : (nx + 9) % 10 < 10 := Nat.mod_lt _ (by decide)
    obtain ⟨t', e1, e2, -⟩ := u6.2.1 _ hx10
    rw [q2] at e1
    obtain rfl := Option.some.inj e1
    have hT := e2.T
    have tr := e2.rng
    obtain ⟨o1, -⟩ := hT.o r
    have hm : s.1 ≤ 6 := Nat.le_trans q1.1 hnb
    have t41 : t ≠ 41 := by omega
    have x42 : xhr r 42 ((nx + 9) % 10) = some t := by
      rw [← q2]
      rfl
    have rs := restore_c (hi := xu hi 41 2 (nI ((nx + 9) % 10))) (hl := hl) (r := r) hT (by rw [xu_ne2 _ _ (Or.inl t41)]; exact q3.1) hm
    generalize hA : xfill (xu hi 41 2 (nI ((nx + 9) % 10))) 3 0 (12 * s.1) ((xu hi 41 2 (nI ((nx + 9) % 10))) (t + 1)) = hiA at rs
    generalize hB : xfill hl 4 0 (12 * s.1) (hl (t + 2)) = hlB at rs
    have nA : ∀ a, a ≠ 3 → a ≠ 41 → hiA a = hi a := fun a ha hb => by rw [← hA, xfill_ne _ _ _ _ ha, xu_ne _ _ _ hb]
    have nA3 : hiA 41 3 = nI (Q.length + 1) := by rw [← hA, xfill_out _ _ _ _ _ (Or.inl (by decide)), xu_ne2 _ _ (Or.inr (by decide)), u4]
    have nA2 : hiA 41 2 = nI ((nx + 9) % 10) := by rw [← hA, xfill_out _ _ _ _ _ (Or.inl (by decide)), xu_at]
    have nB : ∀ a, a ≠ 4 → hlB a = hl a := fun a ha => by rw [← hB, xfill_ne _ _ _ _ ha]
    generalize hM : (xu (xu (xu hiA 41 3 (nI Q.length)) 90 0 0) 90 15 (nI Q.length)) = hiM
    have nM : ∀ a, a ≠ 3 → a ≠ 41 → a ≠ 90 → hiM a = hi a := fun a ha hb hc => by rw [← hM, xu_ne _ _ _ hc, xu_ne _ _ _ hc, xu_ne _ _ _ hb, nA a ha hb]
    have cb := copyBack_m (hi := hiM) (hl := hlB) (r := r) (a := 102) (b := 103) (lo := 72 * Q.length) (m := 12 * s.1) (N := 720) (by decide) (by decide) (by decide) (by decide) (by omega) (by omega) (by decide) (by decide) (by decide)
    generalize hC : xfill hiM 93 0 (12 * s.1) (fun j => hiM 102 (72 * Q.length + j)) = hiC at cb
    generalize hD : xfill hlB 94 0 (12 * s.1) (fun j => hlB 103 (72 * Q.length + j)) = hlD at cb
    have hn : ∀ a, a ∉ [3, 41, 90, 93] → hiC a = hi a := by
      intro a ha
      simp only [List.mem_cons, List.not_mem_nil, or_false, not_or] at ha
      rw [← hC, xfill_ne _ _ _ _ ha.2.2.2, nM a ha.1 ha.2.1 ha.2.2.1]
    have hC15 : hiC 90 15 = nI Q.length := by rw [← hC, xfill_out _ _ _ _ _ (Or.inl (by decide)), ← hM, xu_at]
    refine ⟨nI Q.length, (xu hiA 41 3 (nI Q.length), hlB, r), (hiC, hlD, r), ?_, ?_, ?_⟩
    · unfold F_X11_undo F_X1_stepBack
      rw [u4, if_neg z0, if_neg (by decide), u3, mod10 u2, xu_at, if_pos (xok_t hx10 (by decide)), cl_nI (by omega), x42, xbO_some, if_pos o1, rs, xbV_some, nA3, em, xbV_some, xu_at]
    · unfold F_X12_undo
      simp only
      have f1 : (xu (xu hiA 41 3 (nI Q.length)) 90 0 0) 90 15 = nI (Q.length + 1) := by
        rw [xu_ne2 _ _ (Or.inr (by decide)), xu_ne2 _ _ (Or.inl (by decide)), nA 90 (by decide) (by decide), u5]
      rw [f1, if_neg z0, em, hM]
      have f2 : hiM 90 15 = nI Q.length := by rw [← hM, xu_at]
      rw [f2, if_pos (xok_t (by omega) (by decide)), cl_nI (by omega), nM 101 (by decide) (by decide) (by decide), q4, nI_72mul, nI_12mul, cb, xbV_some, hC15]
    · have hp : ∀ i, i ∉ [0, 15] → hiC 90 i = hi 90 i := by
        intro i hi9
        simp only [List.mem_cons, List.not_mem_nil, or_false, not_or] at hi9
        rw [← hC, xfill_out _ _ _ _ _ (Or.inl (by decide)), ← hM, xu_ne2 _ _ (Or.inr hi9.2), xu_ne2 _ _ (Or.inr hi9.1), xu_ne2 _ _ (Or.inl (by decide)), nA 90 (by decide) (by decide)]
      have hnl : ∀ a, a ∉ [4, 94] → hlD a = hl a := by
        intro a ha
        simp only [List.mem_cons, List.not_mem_nil, or_false, not_or] at ha
        rw [← hD, xfill_ne _ _ _ _ ha.2, nB a ha.1]
      have hpl : hlD 90 14 = hl 90 14 := by rw [hnl 90 (by decide)]
      refine ⟨nb, bk, bz, (fun j => if j < 12 * s.1 then s.2.1 j else ck j), (fun j => if j < 12 * s.1 then s.2.2 j else cn j), nv, vb, vf, vs, vc, vk, ch, bo, tk, tn, Q, ((nx + 9) % 10), G, ln, lp, md, mt, sn, st, sc, ?_, h2.tr (lx hn (by decide)) (hp 6 (by decide)), h3.tr (hn 85 (by decide)) (hnl 85 (by decide)) (hp 13 (by decide)) hpl, ?_, h5.tr (lx hn (by decide)) (lx hnl (by decide)), h6.tr (hn 30 (by decide)) (hn 31 (by decide)) (hn 107 (by decide)) (hp 22 (by decide)), h7.tr (lx hn (by decide)), h8.tr (lx hn (by decide)) (hp 26 (by decide)), h9.tr (hn 121 (by decide)) (hn 112 (by decide)) (hp 29 (by decide))⟩
      · refine h1.back q1 (lx hn (by decide)) (hp 1 (by decide)) ?_ ?_ ?_ ?_
        · intro j
          show hiC 3 j = _
          have e0 : hi 3 j = (xu hi 41 2 (nI ((nx + 9) % 10))) 3 j := (xu_ne2 _ _ (Or.inl (by decide))).symm
          rw [← hC, xfill_out _ _ _ _ _ (Or.inl (by decide)), ← hM, xu_ne2 _ _ (Or.inl (by decide)), xu_ne2 _ _ (Or.inl (by decide)), xu_ne2 _ _ (Or.inl (by decide)), ← hA, e0]
          have fi := xfill_if (xu hi 41 2 (nI ((nx + 9) % 10))) 3 (12 * s.1) ((xu hi 41 2 (nI ((nx + 9) % 10))) (t + 1)) (fun j => nI (s.2.1 j)) (fun j hj => by rw [xu_ne2 _ _ (Or.inl (by omega))]; exact (q3.2 j hj).1) j
          exact fi
        · intro j
          show hiC 93 j = _
          rw [← hC, xfill_if _ _ _ _ (fun j => nI (s.2.1 j)) (fun j hj => by rw [nM 102 (by decide) (by decide) (by decide)]; exact (q5 j hj).1), nM 93 (by decide) (by decide) (by decide)]
        · intro j
          show hlD 4 j = _
          rw [← hD, xfill_out _ _ _ _ _ (Or.inl (by decide)), ← hB]
          exact xfill_if _ _ _ _ _ (fun j hj => (q3.2 j hj).2) j
        · intro j
          show hlD 94 j = _
          rw [← hD, xfill_if _ _ _ _ (fun j => s.2.2 j) (fun j hj => by rw [nB 103 (by decide)]; exact (q5 j hj).2), nB 94 (by decide)]
      · refine ⟨by omega, hx10, ?_, ?_, hC15, u6, fun i v hv => ?_⟩
        · show hiC 41 2 = _
          rw [← hC, xfill_out _ _ _ _ _ (Or.inl (by decide)), ← hM, xu_ne2 _ _ (Or.inl (by decide)), xu_ne2 _ _ (Or.inl (by decide)), xu_ne2 _ _ (Or.inr (by decide)), nA2]
        · show hiC 41 3 = _
          rw [← hC, xfill_out _ _ _ _ _ (Or.inl (by decide)), ← hM, xu_ne2 _ _ (Or.inl (by decide)), xu_ne2 _ _ (Or.inl (by decide)), xu_at]
        · have hil : i < Q.length := by
            rcases Nat.lt_or_ge i Q.length with c | c
            · exact c
            · rw [List.getElem?_eq_none c] at hv; exact absurd hv (by simp)
          obtain ⟨g1, ⟨t2, g2, g3⟩, g4, g5⟩ := u7 i v (by rw [List.getElem?_append_left hil]; exact hv)
          have ei : ((nx + 9) % 10 + 10 - Q.length + i) % 10 = (nx + 10 - (Q.length + 1) + i) % 10 := by omega
          obtain ⟨t3, k1, k2, -⟩ := u6.2.1 _ (Nat.mod_lt (nx + 10 - (Q.length + 1) + i) (by decide : 0 < 10))
          rw [g2] at k1
          obtain rfl := Option.some.inj k1
          have kr := k2.rng
          refine ⟨g1, ⟨t2, by rw [ei]; exact g2, g3.tr (hn _ (by simp <;> omega)) (hn _ (by simp <;> omega)) (hnl _ (by simp <;> omega))⟩, ?_, g5.tr (hn 102 (by decide)) (hnl 103 (by decide))⟩
          show hiC 101 i = _
          rw [hn 101 (by decide)]
          exact g4
section TELL
variable {hi : Nat → Nat → Int32} {hl : Nat → Nat → Int64} {r : xRr}
theorem k10 {c : Nat} (hc : c ≤ 12) : (nI c = (10 : Int32)) = (c = 10) := nI_eq' (b := 10) (by omega) (by decide)
theorem k11 {c : Nat} (hc : c ≤ 12) : (nI c = (11 : Int32)) = (c = 11) := nI_eq' (b := 11) (by omega) (by decide)
theorem k12 {c : Nat} (hc : c ≤ 12) : (nI c = (12 : Int32)) = (c = 12) := nI_eq' (b := 12) (by omega) (by decide)
theorem tell_m {c : Nat} {v : Int64} (h1 : hi 90 31 = nI c) (h2 : hl 90 32 = v) (hc : c ≤ 10) (hv : c = 10 → v = 0) : F_X12_tell hi hl r = some (xu hi 90 13 (if c = 10 then -20 else nI c), xu hl 90 14 v, r) := by
  unfold F_X12_tell F_X12_tell_19 F_X12_tell_40
  have e1 : ∀ w : Int32, (xu hi 90 13 w) 90 31 = nI c := fun w => by rw [xu_ne2 _ _ (Or.inr (by decide)), h1]
  rw [h1, e1, e1, h2]
  simp only [k10 (show c ≤ 12 by omega)]
  by_cases e : c = 10
  · simp only [if_pos e, hv e]
  · simp only [if_neg e]
theorem become_c {t c : Nat} {v : Int64} (ht : xisO t 5 = true) (hc : c ≤ 12) : F_X6_become t (nI c) v hi hl r = some (xu hi t 0 (nI c), xu hl t 1 (rnd c v), r) := by
  unfold F_X6_become
  rw [if_pos ht, rounded_c (k := c) (v := v) hc, xbP_some]
theorem okc.le {b c : Nat} {v : Int64} (h : okc b c v) : c ≤ 10 := by have := h.1; omega
theorem IT.mk {tk : Nat} {tn : Int64} {hi : Nat → Nat → Int32} {hl : Nat → Nat → Int64} (h0 : tk ≤ 7 ∨ tk = 9 ∨ tk = 10) (h1 : hi 85 0 = nI tk) (h2 : hl 85 1 = tn) (h3 : hi 90 13 = if tk = 10 then -20 else nI tk) (h4 : hl 90 14 = tn) : IT tk tn hi hl := ⟨h0, h1, h2, h3, h4⟩
theorem refused_m {b k : Nat} (hb : b < 6) (hk : k ≤ 12) (h : hi 91 b = nI k) : F_X12_refusedBy (nI b) hi hl r = some (if k = 11 then -5 else if k = 12 then -6 else 0, hi, hl, r) := by
  unfold F_X12_refusedBy
  rw [if_pos (xok_t hb (by decide)), cl_nI (by omega), h]
  simp only [k11 hk, k12 hk]
  by_cases e : k = 11
  · simp only [if_pos e]
  · simp only [if_neg e]
    by_cases e2 : k = 12
    · simp only [if_pos e2]
    · simp only [if_neg e2]
theorem isCell_m {b z : Nat} {p : Int32} (hb : b < 6) (hz : z ≤ 12) (h : hi 92 b = nI z) : F_X12_isCell (nI b) p hi hl r = some (if 0 ≤ p.toInt ∧ p.toInt ≤ (z : Int) - 1 then 1 else 0, hi, hl, r) := by
  unfold F_X12_isCell
  rw [if_pos (xok_t hb (by decide)), cl_nI (by omega), h, inN p (by omega), xbP_some]
  by_cases e : 0 ≤ p.toInt ∧ p.toInt ≤ (z : Int) - 1
  · simp [if_pos e]
  · simp [if_neg e]
theorem hasCell_c {b z : Nat} {p : Int32} (hb : b < 6) (hz : z ≤ 12) (h : hi 5 b = nI z) : F_X0_hasCell (nI b) p hi hl r = some (if 0 ≤ p.toInt ∧ p.toInt ≤ (z : Int) - 1 then 1 else 0, hi, hl, r) := by
  unfold F_X0_hasCell
  rw [if_pos (xok_t hb (by decide)), cl_nI (by omega), h]
  have g := has_gen p (n := z) (by omega) _ rfl
  by_cases e : 0 ≤ p.toInt ∧ p.toInt ≤ (z : Int) - 1
  · have n1 : ¬ p < 0 := fun q => (g.mp (Or.inl q)) e
    have n2 : ¬ nI z ≤ p := fun q => (g.mp (Or.inr q)) e
    rw [if_neg n1, if_neg n2, if_pos e]
  · rw [if_neg e]
    by_cases n1 : p < 0
    · rw [if_pos n1]
    · rw [if_neg n1, if_pos ((g.mpr e).resolve_left n1)]
end TELL
theorem op_looks (a0 a1 : Int32) : xOpI xInv (F_X11_looks a0 a1) (F_X12_looks a0 a1) := by
  intro hi hl r h
  have h0 := h
  obtain ⟨nb, bk, bz, ck, cn, nv, vb, vf, vs, vc, vk, ch, bo, tk, tn, P, nx, G, ln, lp, md, mt, sn, st, sc, h1, h2, h3, h4, h5, h6, h7, h8, h9⟩ := h
  obtain ⟨g1, g2, g3, g4, g5⟩ := h1
  have y1 : (xu hi 90 0 (0 : Int32)) 90 1 = nI nb := by rw [xu_ne2 _ _ (Or.inr (by decide))]; exact g3
  have yr : ∀ a, a ≠ 90 → (xu hi 90 0 (0 : Int32)) a = hi a := fun a ha => xu_ne _ _ _ ha
  rcases rng a0 (n := nb) (by omega) with ⟨b, hb, rfl, eb⟩ | hbad
  · rcases rng a1 (n := 12) (by decide) with ⟨p, hp9, rfl, ep⟩ | hbad
    · obtain ⟨b1, b2, b3, b4, b5, b6, b7⟩ := g4 b hb
      have rf := refused_m (hi := xu hi 90 0 (0 : Int32)) (hl := hl) (r := r) (b := b) (k := bk b) (by omega) b1 (by rw [yr 91 (by decide)]; exact b5)
      have hc := hasCell_c (hi := hi) (hl := hl) (r := r) (b := b) (z := bz b) (p := nI p) (by omega) b2 b6
      have ic := isCell_m (hi := xu hi 90 0 (0 : Int32)) (hl := hl) (r := r) (b := b) (z := bz b) (p := nI p) (by omega) b2 (by rw [yr 92 (by decide)]; exact b7)
      have pre1 : F_X11_looks (nI b) (nI p) hi hl r = if bk b = 11 then some (-5, hi, hl, r) else if bk b = 12 then some (-6, hi, hl, r) else xbI (F_X0_hasCell (nI b) (nI p) hi hl r) (fun w11 hi11 hl11 r11 => if w11 = 0 then some (((-8)), hi11, hl11, r11) else xbV (F_X0_fetch (nI b) (nI p) 85 hi11 hl11 r11) (fun hi14 hl14 r14 => some ((0), hi14, hl14, r14))) := by
        unfold F_X11_looks
        rw [bhas_i g2 g1 hb, xbI_some, if_neg (by decide), isPl_i ep hp9, xbP_some, if_neg (by decide), if_pos (xok_t (by omega) (by decide)), cl_nI (by omega), b4]
        simp only [k11 b1, k12 b1]
      have pre2 : ∀ hi' hl', (∀ a, a ≠ 85 → hi' a = hi a) → F_X12_looks (nI b) (nI p) hi' hl' r = xbI (F_X12_refusedBy (nI b) (xu hi' 90 0 0) hl' r) (fun w8 hi8 hl8 r8 => if w8 = 0 then xbI (F_X12_isCell (nI b) (nI p) hi8 hl8 r8) (fun w11 hi11 hl11 r11 => if w11 = 0 then F_X12_looks_46 w8 hi11 hl11 r11 else if xok (((12) * (nI b)) + (nI p)) 72 = true then xbV (F_X12_tell (xu hi11 90 31 (hi11 93 (Int32.toNatClampNeg (((12) * (nI b)) + (nI p))))) (xu hl11 90 32 (hl11 94 (Int32.toNatClampNeg (((12) * (nI b)) + (nI p))))) r11) (fun hi15 hl15 r15 => some ((0), hi15, hl15, r15)) else none) else F_X12_looks_46 w8 hi8 hl8 r8) := by
        intro hi' hl' he
        unfold F_X12_looks
        rw [mbank_i (nb := nb) (by rw [xu_ne2 _ _ (Or.inr (by decide)), he 90 (by decide)]; exact g3) g1 hb, xbI_some, if_neg (by decide), ii ep hp9 (by decide), xbP_some, if_neg (by decide)]
      by_cases e11 : bk b = 11
      · refine ⟨-5, (hi, hl, r), (xu hi 90 0 0, hl, r), ?_, ?_, h0.th⟩
        · rw [pre1, if_pos e11]
        · rw [pre2 _ _ (fun _ _ => rfl), rf, if_pos e11, xbI_some]; rfl
      · by_cases e12 : bk b = 12
        · refine ⟨-6, (hi, hl, r), (xu hi 90 0 0, hl, r), ?_, ?_, h0.th⟩
          · rw [pre1, if_neg e11, if_pos e12]
          · rw [pre2 _ _ (fun _ _ => rfl), rf, if_neg e11, if_pos e12, xbI_some]; rfl
        · rw [if_neg e11, if_neg e12] at rf pre1
          by_cases hz : p < bz b
          · have hq : 12 * b + p < 12 * nb := by omega
            obtain ⟨c1, c2, c3, c4, c5⟩ := g5 _ hq
            have inz : 0 ≤ (nI p).toInt ∧ (nI p).toInt ≤ (bz b : Int) - 1 := by rw [ep]; omega
            rw [if_pos inz] at hc ic
            have rf' := refused_m (hi := xu (xu hi 85 0 (nI (ck (12 * b + p)))) 90 0 (0 : Int32)) (hl := xu hl 85 1 (cn (12 * b + p))) (r := r) (b := b) (k := bk b) (by omega) b1 (by rw [xu_ne _ _ _ (by decide), xu_ne _ _ _ (by decide)]; exact b5)
            rw [if_neg e11, if_neg e12] at rf'
            have ic' := isCell_m (hi := xu (xu hi 85 0 (nI (ck (12 * b + p)))) 90 0 (0 : Int32)) (hl := xu hl 85 1 (cn (12 * b + p))) (r := r) (b := b) (z := bz b) (p := nI p) (by omega) b2 (by rw [xu_ne _ _ _ (by decide), xu_ne _ _ _ (by decide)]; exact b7)
            rw [if_pos inz] at ic'
            have em : nI b * 12 + nI p = nI (12 * b + p) := by rw [nI_mul12, nI_add, Nat.mul_comm]
            have em2 : (12 : Int32) * nI b + nI p = nI (12 * b + p) := by rw [nI_12mul, nI_add]
            generalize hA : xu (xu (xu hi 85 0 (nI (ck (12 * b + p)))) 90 0 (0 : Int32)) 90 31 (nI (ck (12 * b + p))) = hiA
            generalize hB : xu (xu hl 85 1 (cn (12 * b + p))) 90 32 (cn (12 * b + p)) = hlB
            have tl := tell_m (hi := hiA) (hl := hlB) (r := r) (c := ck (12 * b + p)) (v := cn (12 * b + p)) (by rw [← hA, xu_at]) (by rw [← hB, xu_at]) c5.le c5.2.2.1
            refine ⟨0, (xu hi 85 0 (nI (ck (12 * b + p))), xu hl 85 1 (cn (12 * b + p)), r), (xu hiA 90 13 (if ck (12 * b + p) = 10 then -20 else nI (ck (12 * b + p))), xu hlB 90 14 (cn (12 * b + p)), r), ?_, ?_, ?_⟩
            · rw [pre1, hc, xbI_some, if_neg (by decide)]
              unfold F_X0_fetch
              rw [em, if_pos (xok_t (by omega) (by decide)), if_pos (by decide), cl_nI (by omega), c1, c3, become_c (by decide) (by have := c5.le; omega), c5.2.2.2, xbV_some, xbV_some]
            · simp only
              rw [pre2 _ _ (fun a ha => xu_ne _ _ _ ha), rf', xbI_some, if_pos rfl, ic', xbI_some, if_neg (by decide), em2, if_pos (xok_t (by omega) (by decide)), cl_nI (by omega), xu_ne2 _ _ (Or.inl (by decide)), xu_ne2 _ _ (Or.inl (by decide)), c2, xu_ne2 _ _ (Or.inl (by decide)), c4, hA, hB, tl, xbV_some]
            · have hn : ∀ a, a ∉ [85, 90] → (xu hiA 90 13 (if ck (12 * b + p) = 10 then -20 else nI (ck (12 * b + p)))) a = hi a := by
                intro a ha
                simp only [List.mem_cons, List.not_mem_nil, or_false, not_or] at ha
                rw [xu_ne _ _ _ ha.2, ← hA, xu_ne _ _ _ ha.2, xu_ne _ _ _ ha.2, xu_ne _ _ _ ha.1]
              have hp : ∀ i, i ∉ [0, 13, 31] → (xu hiA 90 13 (if ck (12 * b + p) = 10 then -20 else nI (ck (12 * b + p)))) 90 i = hi 90 i := by
                intro i hi9
                simp only [List.mem_cons, List.not_mem_nil, or_false, not_or] at hi9
                rw [xu_ne2 _ _ (Or.inr hi9.2.1), ← hA, xu_ne2 _ _ (Or.inr hi9.2.2), xu_ne2 _ _ (Or.inr hi9.1), xu_ne2 _ _ (Or.inl (by decide))]
              have hnl : ∀ a, a ∉ [85, 90] → (xu hlB 90 14 (cn (12 * b + p))) a = hl a := by
                intro a ha
                simp only [List.mem_cons, List.not_mem_nil, or_false, not_or] at ha
                rw [xu_ne _ _ _ ha.2, ← hB, xu_ne _ _ _ ha.2, xu_ne _ _ _ ha.1]
              have h1 : IB nb bk bz ck cn hi hl := ⟨g1, g2, g3, g4, g5⟩
              refine ⟨nb, bk, bz, ck, cn, nv, vb, vf, vs, vc, vk, ch, bo, ck (12 * b + p), cn (12 * b + p), P, nx, G, ln, lp, md, mt, sn, st, sc, h1.tr (lx hn (by decide)) (hp 1 (by decide)) (lx hnl (by decide)), h2.tr (lx hn (by decide)) (hp 6 (by decide)), ?_, h4.tr (fun a g1 g2 => hn a (by simp <;> omega)) (lx hn (by decide)) (hp 15 (by decide)) (fun a g1 g2 => hnl a (by simp <;> omega)) (hnl 103 (by decide)), h5.tr (lx hn (by decide)) (lx hnl (by decide)), h6.tr (hn 30 (by decide)) (hn 31 (by decide)) (hn 107 (by decide)) (hp 22 (by decide)), h7.tr (lx hn (by decide)), h8.tr (lx hn (by decide)) (hp 26 (by decide)), h9.tr (hn 121 (by decide)) (hn 112 (by decide)) (hp 29 (by decide))⟩
              refine IT.mk c5.1 ?_ ?_ ?_ ?_
              · show (xu hiA 90 13 (if ck (12 * b + p) = 10 then -20 else nI (ck (12 * b + p)))) 85 0 = _
                rw [xu_ne2 _ _ (Or.inl (by decide)), ← hA, xu_ne2 _ _ (Or.inl (by decide)), xu_ne2 _ _ (Or.inl (by decide)), xu_at]
              · show (xu hlB 90 14 (cn (12 * b + p))) 85 1 = _
                rw [xu_ne2 _ _ (Or.inl (by decide)), ← hB, xu_ne2 _ _ (Or.inl (by decide)), xu_at]
              · show (xu hiA 90 13 (if ck (12 * b + p) = 10 then -20 else nI (ck (12 * b + p)))) 90 13 = _
                exact xu_at _ _ _ _
              · show (xu hlB 90 14 (cn (12 * b + p))) 90 14 = _
                exact xu_at _ _ _ _
          · have inz : ¬ (0 ≤ (nI p).toInt ∧ (nI p).toInt ≤ (bz b : Int) - 1) := by rw [ep]; omega
            rw [if_neg inz] at hc ic
            refine ⟨-8, (hi, hl, r), (xu hi 90 0 0, hl, r), ?_, ?_, h0.th⟩
            · rw [pre1, hc, xbI_some, if_pos rfl]
            · rw [pre2 _ _ (fun _ _ => rfl), rf, xbI_some, if_pos rfl, ic, xbI_some, if_pos rfl]; rfl
    · refine ⟨-1, (hi, hl, r), (xu hi 90 0 0, hl, r), ?_, ?_, h0.th⟩
      · unfold F_X11_looks
        rw [bhas_i g2 g1 hb, xbI_some, if_neg (by decide), isPl_o hbad, xbP_some, if_pos rfl]
      · unfold F_X12_looks
        simp only
        rw [mbank_i y1 g1 hb, xbI_some, if_neg (by decide), io hbad (by decide), xbP_some, if_pos rfl]
  · refine ⟨-1, (hi, hl, r), (xu hi 90 0 0, hl, r), ?_, ?_, h0.th⟩
    · unfold F_X11_looks
      rw [bhas_o g2 g1 hbad, xbI_some, if_pos rfl]
    · unfold F_X12_looks
      simp only
      rw [mbank_o y1 g1 hbad, xbI_some, if_pos rfl]
