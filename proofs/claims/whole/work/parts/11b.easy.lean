theorem wi {x : Int32} {j n : Nat} {b : Int32} (e : x.toInt = (j : Int)) (hj : j < n) (hb : b.toInt = (n : Int) - 1) : F_X11_within x 0 b = some 1 := by
  rw [within_eq, e, hb, if_pos]
  exact ⟨by show (0 : Int) ≤ _; omega, by omega⟩
theorem wo {x : Int32} {n : Nat} {b : Int32} (h : ¬ (0 ≤ x.toInt ∧ x.toInt ≤ (n : Int) - 1)) (hb : b.toInt = (n : Int) - 1) : F_X11_within x 0 b = some 0 := by
  rw [within_eq, hb, if_neg]
  exact h
theorem ii {x : Int32} {j n : Nat} {b : Int64} (e : x.toInt = (j : Int)) (hj : j < n) (hb : b.toInt = (n : Int) - 1) : F_X12_in x.toInt64 0 b = some 1 := by
  rw [in0, e, hb, if_pos]
  omega
theorem io {x : Int32} {n : Nat} {b : Int64} (h : ¬ (0 ≤ x.toInt ∧ x.toInt ≤ (n : Int) - 1)) (hb : b.toInt = (n : Int) - 1) : F_X12_in x.toInt64 0 b = some 0 := by
  rw [in0, hb, if_neg]
  exact h
theorem nI_m1 {n : Nat} (hn : n < 2 ^ 30) : (nI n - 1).toInt64.toInt = (n : Int) - 1 := by
  rw [i2l_toInt]
  exact pk_sub_toInt (b := 1) hn (by decide)
theorem isRef_i {x : Int32} {j : Nat} (e : x.toInt = (j : Int)) (hj : j < 7) : F_X11_isRefusal x = some 1 := by
  unfold F_X11_isRefusal
  rw [wi e hj (by decide), xbP_some, if_pos (Or.inr rfl)]
theorem isRef_o {x : Int32} (h : ¬ (0 ≤ x.toInt ∧ x.toInt ≤ ((7 : Nat) : Int) - 1)) : F_X11_isRefusal x = some 0 := by
  unfold F_X11_isRefusal
  rw [wo h (by decide), xbP_some, if_pos (Or.inl rfl)]
theorem isPl_i {x : Int32} {j : Nat} (e : x.toInt = (j : Int)) (hj : j < 12) : F_X11_isPlace x = some 1 := by
  unfold F_X11_isPlace
  rw [wi e hj (by decide), xbP_some, if_pos (Or.inr rfl)]
theorem isPl_o {x : Int32} (h : ¬ (0 ≤ x.toInt ∧ x.toInt ≤ ((12 : Nat) : Int) - 1)) : F_X11_isPlace x = some 0 := by
  unfold F_X11_isPlace
  rw [wo h (by decide), xbP_some, if_pos (Or.inl rfl)]
section OPS1
theorem op_number : xOpL xInv F_X11_number F_X12_number := by
  intro hi hl r h
  have h0 := h
  obtain ⟨nb, bk, bz, ck, cn, nv, vb, vf, vs, vc, vk, ch, bo, tk, tn, P, nx, G, ln, lp, md, mt, sn, st, sc, h1, h2, h3, h4, h5, h6, h7, h8, h9⟩ := h
  refine ⟨tn, (hi, hl, r), (xu hi 90 0 0, hl, r), ?_, ?_, h0.th⟩
  · unfold F_X11_number; rw [h3.2.2.1]
  · unfold F_X12_number; simp only; rw [h3.2.2.2.2]
theorem op_kind : xOpI xInv F_X11_kind F_X12_kind := by
  intro hi hl r h
  have h0 := h
  obtain ⟨nb, bk, bz, ck, cn, nv, vb, vf, vs, vc, vk, ch, bo, tk, tn, P, nx, G, ln, lp, md, mt, sn, st, sc, h1, h2, h3, h4, h5, h6, h7, h8, h9⟩ := h
  refine ⟨if tk = 10 then -20 else nI tk, (hi, hl, r), (xu hi 90 0 0, hl, r), ?_, ?_, h0.th⟩
  · unfold F_X11_kind
    rw [h3.2.1]
    have e : (nI tk = (10 : Int32)) = (tk = 10) := nI_eq' (b := 10) (by have := h3.1; omega) (by decide)
    simp only [e]
    by_cases ht : tk = 10
    · rw [if_pos ht, if_pos ht]
    · rw [if_neg ht, if_neg ht]
  · unfold F_X12_kind
    simp only
    rw [xu_ne2 _ _ (Or.inr (by decide)), h3.2.2.2.1]
theorem op_met (a0 : Int32) : xOpI xInv (F_X11_met a0) (F_X12_met a0) := by
  intro hi hl r h
  have h0 := h
  obtain ⟨nb, bk, bz, ck, cn, nv, vb, vf, vs, vc, vk, ch, bo, tk, tn, P, nx, G, ln, lp, md, mt, sn, st, sc, h1, h2, h3, h4, h5, h6, h7, h8, h9⟩ := h
  rcases rng a0 (n := 7) (by decide) with ⟨j, hj, rfl, ej⟩ | hb
  · refine ⟨nI (mt j), (hi, hl, r), (xu hi 90 0 0, hl, r), ?_, ?_, h0.th⟩
    · unfold F_X11_met
      rw [isRef_i ej hj, xbP_some, if_neg (by decide), if_pos (xok_t hj (by decide)), cl_nI (by omega), (h7 j hj).2.2.2.2.1]
    · unfold F_X12_met
      simp only
      rw [ii ej hj (by decide), xbP_some, if_neg (by decide), if_pos (xok_t hj (by decide)), cl_nI (by omega), xu_ne2 _ _ (Or.inl (by decide)), (h7 j hj).2.2.2.2.2]
  · refine ⟨-1, (hi, hl, r), (xu hi 90 0 0, hl, r), ?_, ?_, h0.th⟩
    · unfold F_X11_met
      rw [isRef_o hb, xbP_some, if_pos rfl]
    · unfold F_X12_met
      simp only
      rw [io hb (by decide), xbP_some, if_pos rfl]
theorem op_modes (a0 a1 : Int32) : xOpI xInv (F_X11_modes a0 a1) (F_X12_modes a0 a1) := by
  intro hi hl r h
  have h0 := h
  obtain ⟨nb, bk, bz, ck, cn, nv, vb, vf, vs, vc, vk, ch, bo, tk, tn, P, nx, G, ln, lp, md, mt, sn, st, sc, h1, h2, h3, h4, h5, h6, h7, h8, h9⟩ := h
  rcases rng a0 (n := 7) (by decide) with ⟨j, hj, rfl, ej⟩ | hb
  · rcases rng a1 (n := 3) (by decide) with ⟨k, hk, rfl, ek⟩ | hb
    · refine ⟨nI (md j), (xu hi 87 j (nI k), hl, r), (xu (xu (xu hi 87 j (nI k)) 90 0 0) 108 j (nI k), hl, r), ?_, ?_, ?_⟩
      · unfold F_X11_modes
        rw [isRef_i ej hj, xbP_some, if_neg (by decide), wi ek hk (by decide), xbP_some, if_neg (by decide), if_pos (xok_t hj (by decide)), cl_nI (by omega), (h7 j hj).2.2.1]
      · unfold F_X12_modes
        simp only
        rw [ii ej hj (by decide), xbP_some, if_neg (by decide), ii ek hk (by decide), xbP_some, if_neg (by decide), if_pos (xok_t hj (by decide)), cl_nI (by omega), xu_ne2 _ _ (Or.inl (by decide)), xu_ne2 _ _ (Or.inl (by decide)), (h7 j hj).2.2.2.1]
      · have hn : ∀ a, a ∉ [87, 90, 108] → (xu (xu (xu hi 87 j (nI k)) 90 0 0) 108 j (nI k)) a = hi a := by
          intro a ha
          simp only [List.mem_cons, List.not_mem_nil, or_false, not_or] at ha
          rw [xu_ne _ _ _ ha.2.2, xu_ne _ _ _ ha.2.1, xu_ne _ _ _ ha.1]
        have hp : ∀ i, i ∉ [0] → (xu (xu (xu hi 87 j (nI k)) 90 0 0) 108 j (nI k)) 90 i = hi 90 i := by
          intro i hi9
          rw [xu_ne2 _ _ (Or.inl (by decide)), xu_ne2 _ _ (Or.inr (by simpa using hi9)), xu_ne2 _ _ (Or.inl (by decide))]
        have hnl : ∀ a, a ∉ ([] : List Nat) → hl a = hl a := fun _ _ => rfl
        have hpl : hl 90 14 = hl 90 14 := rfl
        refine ⟨nb, bk, bz, ck, cn, nv, vb, vf, vs, vc, vk, ch, bo, tk, tn, P, nx, G, ln, lp, (fun i => if i = j then k else md i), mt, sn, st, sc, h1.tr (lx hn (by decide)) (hp 1 (by decide)) (lx hnl (by decide)), h2.tr (lx hn (by decide)) (hp 6 (by decide)), h3.tr (hn 85 (by decide)) (hnl 85 (by decide)) (hp 13 (by decide)) hpl, h4.tr (fun a g1 g2 => hn a (by simp <;> omega)) (lx hn (by decide)) (hp 15 (by decide)) (fun a g1 g2 => hnl a (by simp <;> omega)) (hnl 103 (by decide)), h5.tr (lx hn (by decide)) (lx hnl (by decide)), h6.tr (hn 30 (by decide)) (hn 31 (by decide)) (hn 107 (by decide)) (hp 22 (by decide)), ?_, h8.tr (lx hn (by decide)) (hp 26 (by decide)), h9.tr (hn 121 (by decide)) (hn 112 (by decide)) (hp 29 (by decide))⟩
        intro i hi9
        obtain ⟨g1, g2, g3, g4, g5, g6⟩ := h7 i hi9
        simp only [hn 88 (by decide), hn 109 (by decide)]
        by_cases e : i = j
        · subst e
          rw [if_pos rfl]
          refine ⟨by omega, g2, ?_, ?_, g5, g6⟩
          · rw [xu_ne2 _ _ (Or.inl (by decide)), xu_ne2 _ _ (Or.inl (by decide)), xu_at]
          · rw [xu_at]
        · rw [if_neg e]
          refine ⟨g1, g2, ?_, ?_, g5, g6⟩
          · rw [xu_ne2 _ _ (Or.inl (by decide)), xu_ne2 _ _ (Or.inl (by decide)), xu_ne2 _ _ (Or.inr e)]; exact g3
          · rw [xu_ne2 _ _ (Or.inr e), xu_ne2 _ _ (Or.inl (by decide)), xu_ne2 _ _ (Or.inl (by decide))]; exact g4
    · refine ⟨-1, (hi, hl, r), (xu hi 90 0 0, hl, r), ?_, ?_, h0.th⟩
      · unfold F_X11_modes
        rw [isRef_i ej hj, xbP_some, if_neg (by decide), wo hb (by decide), xbP_some, if_pos rfl]
      · unfold F_X12_modes
        simp only
        rw [ii ej hj (by decide), xbP_some, if_neg (by decide), io hb (by decide), xbP_some, if_pos rfl]
  · refine ⟨-1, (hi, hl, r), (xu hi 90 0 0, hl, r), ?_, ?_, h0.th⟩
    · unfold F_X11_modes
      rw [isRef_o hb, xbP_some, if_pos rfl]
    · unfold F_X12_modes
      simp only
      rw [io hb (by decide), xbP_some, if_pos rfl]
end OPS1
