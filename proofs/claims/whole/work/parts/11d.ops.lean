theorem op_count (a0 : Int32) : xOpI xInv (F_X11_count a0) (F_X12_count a0) := by
  intro hi hl r h
  have h0 := h
  obtain ⟨nb, bk, bz, ck, cn, nv, vb, vf, vs, vc, vk, ch, bo, tk, tn, P, nx, G, ln, lp, md, mt, sn, st, sc, h1, h2, h3, h4, h5, h6, h7, h8, h9⟩ := h
  have hb := h1.2.1; have hb2 := h1.2.2.1; have hv := h2.2.1; have hv2 := h2.2.2.1
  have hu := h4.2.2.2.1; have hu2 := h4.2.2.2.2.1; have hs := h8.2.1; have hs2 := h8.2.2.1
  have hln := h6.2.1; have hln2 := h6.2.2.1; have hop := h6.2.2.2.1
  have hopen := open_m (hl := hl) (r := r) (h6.sc (scI.p (0 : Int32) (show 0 ∉ [1, 6, 13, 15, 22, 26, 29] by decide)))
  have x1 : ∀ j, j ≠ 0 → xu hi 90 0 (0 : Int32) 90 j = hi 90 j := fun j hj => xu_ne2 _ _ (Or.inr hj)
  rcases rng a0 (n := 6) (by decide) with ⟨j, hj, rfl, ej⟩ | hbad
  · rcases (show j = 0 ∨ j = 1 ∨ j = 2 ∨ j = 3 ∨ j = 4 ∨ j = 5 by omega) with rfl | rfl | rfl | rfl | rfl | rfl
    · refine ⟨nI nb, (hi, hl, r), (xu hi 90 0 0, hl, r), ?_, ?_, h0.th⟩
      · unfold F_X11_count; rw [if_pos (by decide), hb]
      · unfold F_X12_count; simp only; rw [ii ej hj (by decide), xbP_some, if_neg (by decide), if_neg (by decide), if_pos (by decide), x1 1 (by decide), hb2]
    · refine ⟨nI nv, (hi, hl, r), (xu hi 90 0 0, hl, r), ?_, ?_, h0.th⟩
      · unfold F_X11_count; rw [if_neg (by decide), if_pos (by decide), hv]
      · unfold F_X12_count; simp only; rw [ii ej hj (by decide), xbP_some, if_neg (by decide), if_neg (by decide), if_neg (by decide), if_pos (by decide), x1 6 (by decide), hv2]
    · refine ⟨nI ln, (hi, hl, r), (xu hi 90 0 0, hl, r), ?_, ?_, h0.th⟩
      · unfold F_X11_count; rw [if_neg (by decide), if_neg (by decide), if_pos (by decide), hln]
      · unfold F_X12_count; simp only; rw [ii ej hj (by decide), xbP_some, if_neg (by decide), if_neg (by decide), if_neg (by decide), if_neg (by decide), x1 22 (by decide), hln2]
    · refine ⟨nI (opn lp ln), (hi, hl, r), (xu hi 90 0 0, hl, r), ?_, ?_, h0.th⟩
      · unfold F_X11_count; rw [if_neg (by decide), if_neg (by decide), if_neg (by decide), if_pos (by decide), hop]
      · unfold F_X12_count; simp only; rw [ii ej hj (by decide), xbP_some, if_neg (by decide), if_pos (by decide), if_pos (by decide), hopen, xbI_some]
    · refine ⟨nI sn, (hi, hl, r), (xu hi 90 0 0, hl, r), ?_, ?_, h0.th⟩
      · unfold F_X11_count; rw [if_neg (by decide), if_neg (by decide), if_neg (by decide), if_neg (by decide), if_pos (by decide), hs]
      · unfold F_X12_count; simp only; rw [ii ej hj (by decide), xbP_some, if_neg (by decide), if_pos (by decide), if_neg (by decide), if_pos (by decide), x1 26 (by decide), hs2]
    · refine ⟨nI P.length, (hi, hl, r), (xu hi 90 0 0, hl, r), ?_, ?_, h0.th⟩
      · unfold F_X11_count; rw [if_neg (by decide), if_neg (by decide), if_neg (by decide), if_neg (by decide), if_neg (by decide), if_pos (by decide), hu]
      · unfold F_X12_count; simp only; rw [ii ej hj (by decide), xbP_some, if_neg (by decide), if_pos (by decide), if_neg (by decide), if_neg (by decide), x1 15 (by decide), hu2]
  · refine ⟨-1, (hi, hl, r), (xu hi 90 0 0, hl, r), ?_, ?_, h0.th⟩
    · unfold F_X11_count
      have ne : ∀ k : Nat, k < 6 → ¬ a0 = nI k := by
        intro k hk e
        apply hbad
        rw [e, nI_toInt (by omega)]
        omega
      have n0 : ¬ a0 = 0 := ne 0 (by decide)
      have n1 : ¬ a0 = 1 := ne 1 (by decide)
      have n2 : ¬ a0 = 2 := ne 2 (by decide)
      have n3 : ¬ a0 = 3 := ne 3 (by decide)
      have n4 : ¬ a0 = 4 := ne 4 (by decide)
      have n5 : ¬ a0 = 5 := ne 5 (by decide)
      rw [if_neg n0, if_neg n1, if_neg n2, if_neg n3, if_neg n4, if_neg n5]
    · unfold F_X12_count; simp only; rw [io hbad (by decide), xbP_some, if_pos rfl]
theorem has_i {c : Int32} {j n : Nat} (hn : n < 2 ^ 31) (hc : c = nI n) (hj : j < n) : ¬ nI j < 0 ∧ ¬ c ≤ nI j := by
  subst hc
  refine ⟨nI_pos (by omega), ?_⟩
  rw [nI_leI (by omega) (by omega)]
  omega
section HAS
variable {hi : Nat → Nat → Int32} {hl : Nat → Nat → Int64} {r : xRr}
theorem lhas_i {ln j : Nat} (h : hi 30 2 = nI ln) (hn : ln ≤ 16) (hj : j < ln) : F_X4_has (nI j) hi hl r = some (1, hi, hl, r) := by
  obtain ⟨g1, g2⟩ := has_i (by omega) h hj
  unfold F_X4_has
  rw [if_neg g1, if_neg g2]
theorem lhas_o {ln : Nat} {x : Int32} (h : hi 30 2 = nI ln) (hn : ln ≤ 16) (hb : ¬ (0 ≤ x.toInt ∧ x.toInt ≤ (ln : Int) - 1)) : F_X4_has x hi hl r = some (0, hi, hl, r) := by
  unfold F_X4_has
  rcases (has_gen x (n := ln) (by omega) _ h).mpr hb with g | g
  · rw [if_pos g]
  · by_cases g1 : x < 0
    · rw [if_pos g1]
    · rw [if_neg g1, if_pos g]
theorem vhas_i {nv j : Nat} (h : hi 6 8 = nI nv) (hn : nv ≤ 8) (hj : j < nv) : F_X8_has (nI j) hi hl r = some (1, hi, hl, r) := by
  obtain ⟨g1, g2⟩ := has_i (by omega) h hj
  unfold F_X8_has
  rw [if_neg g1, if_neg g2]
theorem vhas_o {nv : Nat} {x : Int32} (h : hi 6 8 = nI nv) (hn : nv ≤ 8) (hb : ¬ (0 ≤ x.toInt ∧ x.toInt ≤ (nv : Int) - 1)) : F_X8_has x hi hl r = some (0, hi, hl, r) := by
  unfold F_X8_has
  rcases (has_gen x (n := nv) (by omega) _ h).mpr hb with g | g
  · rw [if_pos g]
  · by_cases g1 : x < 0
    · rw [if_pos g1]
    · rw [if_neg g1, if_pos g]
theorem bhas_i {nb j : Nat} (h : hi 1 4 = nI nb) (hn : nb ≤ 6) (hj : j < nb) : F_X0_hasBank (nI j) hi hl r = some (1, hi, hl, r) := by
  obtain ⟨g1, g2⟩ := has_i (by omega) h hj
  unfold F_X0_hasBank
  rw [if_neg g1, if_neg g2]
theorem bhas_o {nb : Nat} {x : Int32} (h : hi 1 4 = nI nb) (hn : nb ≤ 6) (hb : ¬ (0 ≤ x.toInt ∧ x.toInt ≤ (nb : Int) - 1)) : F_X0_hasBank x hi hl r = some (0, hi, hl, r) := by
  unfold F_X0_hasBank
  rcases (has_gen x (n := nb) (by omega) _ h).mpr hb with g | g
  · rw [if_pos g]
  · by_cases g1 : x < 0
    · rw [if_pos g1]
    · rw [if_neg g1, if_pos g]
theorem mview_i {nv j : Nat} (h : hi 90 6 = nI nv) (hn : nv ≤ 8) (hj : j < nv) : F_X12_isView (nI j) hi hl r = some (1, hi, hl, r) := by
  unfold F_X12_isView
  rw [h, ii (nI_toInt (by omega)) hj (nI_m1 (by omega)), xbP_some, if_pos (Or.inr rfl)]
theorem mview_o {nv : Nat} {x : Int32} (h : hi 90 6 = nI nv) (hn : nv ≤ 8) (hb : ¬ (0 ≤ x.toInt ∧ x.toInt ≤ (nv : Int) - 1)) : F_X12_isView x hi hl r = some (0, hi, hl, r) := by
  unfold F_X12_isView
  rw [h, io hb (nI_m1 (by omega)), xbP_some, if_pos (Or.inl rfl)]
theorem mbank_i {nb j : Nat} (h : hi 90 1 = nI nb) (hn : nb ≤ 6) (hj : j < nb) : F_X12_isBank (nI j) hi hl r = some (1, hi, hl, r) := by
  unfold F_X12_isBank
  rw [h, ii (nI_toInt (by omega)) hj (nI_m1 (by omega)), xbP_some, if_pos (Or.inr rfl)]
theorem mbank_o {nb : Nat} {x : Int32} (h : hi 90 1 = nI nb) (hn : nb ≤ 6) (hb : ¬ (0 ≤ x.toInt ∧ x.toInt ≤ (nb : Int) - 1)) : F_X12_isBank x hi hl r = some (0, hi, hl, r) := by
  unfold F_X12_isBank
  rw [h, io hb (nI_m1 (by omega)), xbP_some, if_pos (Or.inl rfl)]
theorem part_c {ln i j : Nat} {lp : Nat → Nat} (h : ∀ k, k < 5 * ln → hi 31 k = nI (lp k) ∧ hi 107 k = nI (lp k)) (hln : ln ≤ 16) (hi9 : i < ln) (hj : j < 5) : F_X4_part (nI i) (nI j) hi hl r = some (nI (lp (5 * i + j)), hi, hl, r) := by
  unfold F_X4_part
  rw [nI_mul5, nI_add, if_pos (xok_t (by omega) (by decide)), cl_nI (by omega), Nat.mul_comm i 5, (h _ (by omega)).1]
end HAS
theorem op_line (a0 a1 : Int32) : xOpI xInv (F_X11_line a0 a1) (F_X12_line a0 a1) := by
  intro hi hl r h
  have h0 := h
  obtain ⟨nb, bk, bz, ck, cn, nv, vb, vf, vs, vc, vk, ch, bo, tk, tn, P, nx, G, ln, lp, md, mt, sn, st, sc, h1, h2, h3, h4, h5, h6, h7, h8, h9⟩ := h
  have hln := h6.2.1; have hln2 := h6.2.2.1; have hl16 := h6.1
  have x1 : xu hi 90 0 (0 : Int32) 90 22 = nI ln := by rw [xu_ne2 _ _ (Or.inr (by decide))]; exact hln2
  rcases rng a0 (n := ln) (by omega) with ⟨i, hi9, rfl, ei⟩ | hb
  · rcases rng a1 (n := 5) (by decide) with ⟨j, hj, rfl, ej⟩ | hb
    · refine ⟨nI (lp (5 * i + j)), (hi, hl, r), (xu hi 90 0 0, hl, r), ?_, ?_, h0.th⟩
      · unfold F_X11_line
        rw [lhas_i hln hl16 hi9, xbI_some, if_neg (by decide), wi ej hj (by decide), xbP_some, if_neg (by decide), part_c h6.2.2.2.2.1 hl16 hi9 hj, xbI_some]
      · unfold F_X12_line
        simp only
        rw [x1, ii ei hi9 (nI_m1 (by omega)), xbP_some, if_neg (by decide), ii ej hj (by decide), xbP_some, if_neg (by decide), nI_5mul, nI_add, if_pos (xok_t (by omega) (by decide)), cl_nI (by omega), xu_ne2 _ _ (Or.inl (by decide)), (h6.2.2.2.2.1 _ (by omega)).2]
    · refine ⟨-1, (hi, hl, r), (xu hi 90 0 0, hl, r), ?_, ?_, h0.th⟩
      · unfold F_X11_line
        rw [lhas_i hln hl16 hi9, xbI_some, if_neg (by decide), wo hb (by decide), xbP_some, if_pos rfl]
      · unfold F_X12_line
        simp only
        rw [x1, ii ei hi9 (nI_m1 (by omega)), xbP_some, if_neg (by decide), io hb (by decide), xbP_some, if_pos rfl]
  · refine ⟨-1, (hi, hl, r), (xu hi 90 0 0, hl, r), ?_, ?_, h0.th⟩
    · unfold F_X11_line
      rw [lhas_o hln hl16 hb, xbI_some, if_pos rfl]
    · unfold F_X12_line
      simp only
      rw [x1, io hb (nI_m1 (by omega)), xbP_some, if_pos rfl]
theorem op_keep (a0 : Int32) : xOpI xInv (F_X11_keep a0) (F_X12_keep a0) := by
  intro hi hl r h
  have h0 := h
  obtain ⟨nb, bk, bz, ck, cn, nv, vb, vf, vs, vc, vk, ch, bo, tk, tn, P, nx, G, ln, lp, md, mt, sn, st, sc, h1, h2, h3, h4, h5, h6, h7, h8, h9⟩ := h
  have hnb := h1.1
  rcases rng a0 (n := 2) (by decide) with ⟨g, hg, rfl, eg⟩ | hb
  · have hT : isT (77 + 3 * g) := by
      unfold isT
      rcases (show g = 0 ∨ g = 1 by omega) with rfl | rfl <;> decide
    have e76 : xhr r 76 g = some (77 + 3 * g) := by rcases (show g = 0 ∨ g = 1 by omega) with rfl | rfl <;> rfl
    obtain ⟨o1, -⟩ := hT.o r
    generalize hA : xfill (xu hi (77 + 3 * g) 2 (nI nb)) (77 + 3 * g + 1) 0 (12 * nb) (hi 3) = hiA
    generalize hB : xfill hl (77 + 3 * g + 2) 0 (12 * nb) (hl 4) = hlA
    have nA : ∀ a, a ∉ [77 + 3 * g, 77 + 3 * g + 1] → hiA a = hi a := by
      intro a ha
      simp only [List.mem_cons, List.not_mem_nil, or_false, not_or] at ha
      rw [← hA, xfill_ne _ _ _ _ ha.2, xu_ne _ _ _ ha.1]
    have nB : ∀ a, a ≠ 77 + 3 * g + 2 → hlA a = hl a := by
      intro a ha
      rw [← hB, xfill_ne _ _ _ _ ha]
    have hrec := record_c (hl := hl) (r := r) hT h1.2.1 hnb
    rw [hA, hB] at hrec
    have cp := copy_m (hi := xu hiA 90 0 0) (hl := hlA) (r := r) (a := 104) (b := 105) (lo := 72 * g) (N := 144) (by decide) (by decide) (by decide) (by decide) (by omega) (by decide) (by decide) (by decide)
    generalize hC : xfill (xu hiA 90 0 0) 104 (72 * g) 72 (fun j => xu hiA 90 0 0 93 (j - 72 * g)) = hiC at cp
    generalize hD : xfill hlA 105 (72 * g) 72 (fun j => hlA 94 (j - 72 * g)) = hlC at cp
    have nC : ∀ a, a ∉ [90, 104] → hiC a = hiA a := by
      intro a ha
      simp only [List.mem_cons, List.not_mem_nil, or_false, not_or] at ha
      rw [← hC, xfill_ne _ _ _ _ ha.2, xu_ne _ _ _ ha.1]
    have pC : ∀ i, i ≠ 0 → hiC 90 i = hi 90 i := by
      intro i hi9
      rw [← hC, xfill_out _ _ _ _ _ (Or.inl (by decide)), xu_ne2 _ _ (Or.inr hi9), nA 90 (by simp <;> omega)]
    have nD : ∀ a, a ≠ 105 → hlC a = hlA a := by
      intro a ha
      rw [← hD, xfill_ne _ _ _ _ ha]
    refine ⟨nI nb, (hiA, hlA, r), (xu hiC 106 g (nI nb), hlC, r), ?_, ?_, ?_⟩
    · unfold F_X11_keep
      rw [wi eg hg (by decide), xbP_some, if_neg (by decide), if_pos (xok_t hg (by decide)), cl_nI (by omega), e76, xbO_some, if_pos o1, hrec, xbV_some, nA 1 (by simp <;> omega), h1.2.1]
    · unfold F_X12_keep
      simp only
      rw [ii eg hg (by decide), xbP_some, if_neg (by decide), nI_72mul, cp, xbV_some, if_pos (xok_t hg (by decide)), cl_nI (by omega), pC 1 (by decide), h1.2.2.1, xu_ne2 _ _ (Or.inl (by decide)), pC 1 (by decide), h1.2.2.1]
    · have hn : ∀ a, a ∉ [77 + 3 * g, 77 + 3 * g + 1, 90, 104, 106] → (xu hiC 106 g (nI nb)) a = hi a := by
        intro a ha
        simp only [List.mem_cons, List.not_mem_nil, or_false, not_or] at ha
        rw [xu_ne _ _ _ ha.2.2.2.2, nC a (by simp; exact ⟨ha.2.2.1, ha.2.2.2.1⟩), nA a (by simp; exact ⟨ha.1, ha.2.1⟩)]
      have hp : ∀ i, i ≠ 0 → (xu hiC 106 g (nI nb)) 90 i = hi 90 i := by
        intro i hi9
        rw [xu_ne2 _ _ (Or.inl (by decide)), pC i hi9]
      have hnl : ∀ a, a ∉ [77 + 3 * g + 2, 105] → hlC a = hl a := by
        intro a ha
        simp only [List.mem_cons, List.not_mem_nil, or_false, not_or] at ha
        rw [nD a ha.2, nB a ha.1]
      have hx : ∀ a, (a < 77 ∨ 82 < a) → a ∉ [90, 104, 106] → (xu hiC 106 g (nI nb)) a = hi a := by
        intro a ha hb
        simp only [List.mem_cons, List.not_mem_nil, or_false, not_or] at hb
        exact hn a (by simp <;> omega)
      have hxl : ∀ a, (a < 77 ∨ 82 < a) → a ≠ 105 → hlC a = hl a := by
        intro a ha hb
        exact hnl a (by simp <;> omega)
      have lz : ∀ (Z : List Nat), Z.all (fun a => (decide (a < 77) || decide (82 < a)) && decide (a ∉ [90, 104, 106])) = true → ∀ a, a ∈ Z → (xu hiC 106 g (nI nb)) a = hi a := by
        intro Z hZ a ha
        have := List.all_eq_true.mp hZ a ha
        simp only [Bool.and_eq_true, Bool.or_eq_true, decide_eq_true_eq] at this
        exact hx a this.1 this.2
      have lzl : ∀ (Z : List Nat), Z.all (fun a => (decide (a < 77) || decide (82 < a)) && decide (a ≠ 105)) = true → ∀ a, a ∈ Z → hlC a = hl a := by
        intro Z hZ a ha
        have := List.all_eq_true.mp hZ a ha
        simp only [Bool.and_eq_true, Bool.or_eq_true, decide_eq_true_eq] at this
        exact hxl a this.1 this.2
      refine ⟨nb, bk, bz, ck, cn, nv, vb, vf, vs, vc, vk, ch, bo, tk, tn, P, nx, (fun j => if j = g then some (nb, ck, cn) else G j), ln, lp, md, mt, sn, st, sc, h1.tr (lz _ (by decide)) (hp 1 (by decide)) (lzl _ (by decide)), h2.tr (lz _ (by decide)) (hp 6 (by decide)), h3.tr (hx 85 (by omega) (by decide)) (hxl 85 (by omega) (by decide)) (hp 13 (by decide)) (by show hlC 90 14 = _; rw [hxl 90 (by omega) (by decide)]), h4.tr (fun a q1 q2 => hx a (by omega) (by simp <;> omega)) (lz _ (by decide)) (hp 15 (by decide)) (fun a q1 q2 => hxl a (by omega) (by omega)) (hxl 103 (by omega) (by decide)), ?_, h6.tr (hx 30 (by omega) (by decide)) (hx 31 (by omega) (by decide)) (hx 107 (by omega) (by decide)) (hp 22 (by decide)), h7.tr (lz _ (by decide)), h8.tr (lz _ (by decide)) (hp 26 (by decide)), h9.tr (hx 121 (by omega) (by decide)) (hx 112 (by omega) (by decide)) (hp 29 (by decide))⟩
      intro j hj
      by_cases e : j = g
      · subst e
        simp only [if_pos]
        have hcell := h1.2.2.2.2
        refine ⟨⟨Nat.le_refl _, fun q hq => (hcell q hq).2.2.2.2⟩, ⟨?_, fun q hq => ⟨?_, ?_⟩⟩, xu_at _ _ _ _, fun q hq => ⟨?_, ?_⟩⟩
        · rw [xu_ne2 _ _ (Or.inl (by omega)), nC _ (by simp <;> omega), ← hA, xfill_out _ _ _ _ _ (Or.inl (by omega)), xu_at]
        · rw [xu_ne2 _ _ (Or.inl (by omega)), nC _ (by simp <;> omega), ← hA, xfill_in _ _ _ _ _ (by omega) (by simpa using hq), (hcell q hq).1]
        · show hlC (77 + 3 * j + 2) q = cn q
          rw [nD _ (by omega), ← hB, xfill_in _ _ _ _ _ (by omega) (by simpa using hq), (hcell q hq).2.2.1]
        · have hq : q < 12 * nb := hq
          rw [xu_ne2 _ _ (Or.inl (by decide)), ← hC, xfill_in _ _ _ _ _ (by omega) (by omega), xu_ne2 _ _ (Or.inl (by decide)), nA 93 (by simp <;> omega), show 72 * j + q - 72 * j = q by omega, (hcell q hq).2.1]
        · have hq : q < 12 * nb := hq
          show hlC 105 (72 * j + q) = cn q
          rw [← hD, xfill_in _ _ _ _ _ (by omega) (by omega), nB 94 (by omega), show 72 * j + q - 72 * j = q by omega, (hcell q hq).2.2.2.1]
      · simp only [if_neg e]
        have h5j := h5 j hj
        have a1 : (xu hiC 106 g (nI nb)) (77 + 3 * j) = hi (77 + 3 * j) := hn _ (by simp <;> omega)
        have a2 : (xu hiC 106 g (nI nb)) (77 + 3 * j + 1) = hi (77 + 3 * j + 1) := hn _ (by simp <;> omega)
        have a3 : hlC (77 + 3 * j + 2) = hl (77 + 3 * j + 2) := hnl _ (by simp <;> omega)
        have a4 : (xu hiC 106 g (nI nb)) 106 j = hi 106 j := by rw [xu_ne2 _ _ (Or.inr e), nC 106 (by decide), nA 106 (by simp <;> omega)]
        cases hG : G j with
        | none =>
          rw [hG] at h5j
          simp only at h5j ⊢
          rw [a1, a4]
          exact h5j
        | some s =>
          rw [hG] at h5j
          simp only at h5j ⊢
          obtain ⟨q1, q2, q3, q4⟩ := h5j
          refine ⟨q1, q2.tr a1 a2 a3, by rw [a4]; exact q3, fun q hq => ⟨?_, ?_⟩⟩
          · have := q1.1
            rw [xu_ne2 _ _ (Or.inl (by decide)), ← hC, xfill_out _ _ _ _ _ (by omega), xu_ne2 _ _ (Or.inl (by decide)), nA 104 (by simp <;> omega)]
            exact (q4 q hq).1
          · have := q1.1
            show hlC 105 (72 * j + q) = _
            rw [← hD, xfill_out _ _ _ _ _ (by omega), nB 105 (by omega)]
            exact (q4 q hq).2
  · refine ⟨-1, (hi, hl, r), (xu hi 90 0 0, hl, r), ?_, ?_, h0.th⟩
    · unfold F_X11_keep
      rw [wo hb (by decide), xbP_some, if_pos rfl]
    · unfold F_X12_keep
      simp only
      rw [io hb (by decide), xbP_some, if_pos rfl]
