section PARTM
variable {hi : Nat → Nat → Int32} {hl : Nat → Nat → Int64} {r : xRr}
theorem part_m (h : IP hi) : ∃ hi' b, F_X12_part hi hl r = some (hi', xu hl 90 32 b, r) ∧ (∀ a, a ∉ [90, 112, 121] → hi' a = hi a) ∧ (∀ j, j ∉ [29, 31] → hi' 90 j = hi 90 j) ∧ hi' 90 29 = 1 ∧ (∀ j, j < 104 → hi' 121 j = nI (xsetOf j)) ∧ (∀ x, x < 8192 → hi' 112 x = nI (pt x)) := by
  unfold F_X12_part
  rcases h with ⟨e, z⟩ | ⟨e, z1, z2⟩
  · rw [if_pos e]
    obtain ⟨hi', b, q1, q2, q3, q4, q5⟩ := part15_m (r := r) 26 1000000 0 (xu hi 90 29 1) hl (by omega) (by omega) (fun j hj => by
      rw [xu_ne2 _ _ (Or.inl (by decide)), z j hj]
      unfold pset
      rw [if_neg (by omega)]
      by_cases c : j / 4 = 0
      · rw [if_pos c]; rfl
      · rw [if_neg c]; rfl)
    refine ⟨hi', b, q1, fun a ha => by rw [q2 a ha, xu_ne _ _ _ (nDe ha (by decide))], fun j hj => ?_, ?_, q4, q5⟩
    · rw [q3 j (nDe hj (by decide)), xu_ne2 _ _ (Or.inr (nDe hj (by decide)))]
    · rw [q3 29 (by decide), xu_at]
  · refine ⟨hi, hl 90 32, ?_, fun _ _ => rfl, fun _ _ => rfl, e, z1, z2⟩
    rw [if_neg (by rw [e]; decide), xu_id hl rfl]
theorem few56_m {s b : Nat} (hs : s < 8192) (hb : b < 26) (h121 : ∀ j, j < 104 → hi 121 j = nI (xsetOf j)) (h112 : ∀ x, x < 8192 → hi 112 x = nI (pt x)) (e : 1 + xwb pt s b = pt s) (hn' : ∀ c, c < b → ¬ 1 + xwb pt s c = pt s) : ∀ d n a, a + d = b → d < n → F_X12_fewest_56 n (nI s) (nI a) hi hl r = some (nI b, hi, hl, r) := by
  have h12 := pt_12 hs
  have one1 : ∀ a n, a < 26 → F_X12_fewest_56 (n + 1) (nI s) (nI a) hi hl r = if 1 + xwb pt s a = pt s then some (nI a, hi, hl, r) else F_X12_fewest_56 n (nI s) (nI (a + 1)) hi hl r := by
    intro a n ha
    have h99 := xwb_99 (att := a) hs
    have e1 : (nI (1 + xwb pt s a) = nI (pt s)) = (1 + xwb pt s a = pt s) := nI_eq' (by omega) (by omega)
    conv => lhs; unfold F_X12_fewest_56
    rw [worst_m hs ha h121 (fun x hx => h112 x (by omega)), xbI_some, if_pos (xok_t hs (by decide)), cl_nI (by omega), h112 s hs, show (1 : Int32) + nI (xwb pt s a) = nI (1 + xwb pt s a) from nI_add 1 _, show nI a + 1 = nI (a + 1) from nI_1 a]
    simp only [e1]
  intro d
  induction d with
  | zero =>
    intro n a had hn
    obtain ⟨n, rfl⟩ : ∃ q, n = q + 1 := ⟨n - 1, by omega⟩
    have ea : a = b := by omega
    subst ea
    rw [one1 a n hb, if_pos e]
  | succ d ih =>
    intro n a had hn
    obtain ⟨n, rfl⟩ : ∃ q, n = q + 1 := ⟨n - 1, by omega⟩
    rw [one1 a n (by omega), if_neg (hn' a (by omega))]
    exact ih n (a + 1) (by omega) (by omega)
end PARTM
theorem op_fewest (a0 : Int32) : xOpI xInv (F_X11_fewest a0) (F_X12_fewest a0) := by
  intro hi hl r h
  have h0 := h
  obtain ⟨nb, bk, bz, ck, cn, nv, vb, vf, vs, vc, vk, ch, bo, tk, tn, P, nx, G, ln, lp, md, mt, sn, st, sc, h1, h2, h3, h4, h5, h6, h7, h8, h9⟩ := h
  have q1 : (1 : Int32).toInt = ((2 : Nat) : Int) - 1 := by decide +kernel
  have q1' : (1 : Int64).toInt = ((2 : Nat) : Int) - 1 := by decide +kernel
  rcases (rng a0 (n := 2) (by omega)).symm with hbad | ⟨w, hw, rfl, ew⟩
  · refine ⟨-1, (hi, hl, r), (xu hi 90 0 0, hl, r), ?_, ?_, h0.th⟩
    · unfold F_X11_fewest
      rw [wo hbad q1, xbP_some, if_pos rfl]
    · unfold F_X12_fewest
      simp only
      rw [io hbad q1', xbP_some, if_pos rfl]
  have i4 := h8.2.2.2.1
  have i5 := h8.2.2.2.2.1
  have hlt := lft_lt sn st sc
  obtain ⟨hi1, b1', p1, p2, p3, p4, p5, p6⟩ := part_m (hl := hl) (r := r) (h9.sc (scI.p (hi := hi) (0 : Int32) (show 0 ∉ [1, 6, 13, 15, 22, 26, 29] by decide)))
  have f1 : ∀ a, a ∉ [90, 112, 121] → hi1 a = hi a := fun a ha => by rw [p2 a ha, xu_ne _ _ _ (nDe ha (by decide))]
  have f9 : ∀ j, j ∉ [0, 29, 31] → hi1 90 j = hi 90 j := fun j hj => by rw [p3 j (nD hj (by decide)), xu_ne2 _ _ (Or.inr (nDe hj (by decide)))]
  have hSm : ISm sn st sc hi1 := ⟨h8.1, by rw [f9 26 (by decide)]; exact h8.2.2.1, by rw [f1 110 (by decide), f1 111 (by decide)]; exact h8.2.2.2.2.2⟩
  obtain ⟨a, b, lm⟩ := left_m (hl := xu hl 90 32 b1') (r := r) hSm
  rw [xu_xu] at lm
  generalize hG : xu hi1 90 31 a = hi2 at lm
  generalize hGl : xu hl 90 32 b = hl2 at lm
  have g1 : ∀ x, x ∉ [90, 112, 121] → hi2 x = hi x := fun x hx => by rw [← hG, xu_ne _ _ _ (nDe hx (by decide)), f1 x hx]
  have g9 : ∀ j, j ∉ [0, 29, 31] → hi2 90 j = hi 90 j := fun j hj => by rw [← hG, xu_ne2 _ _ (Or.inr (nDe hj (by decide))), f9 j hj]
  have t121 : ∀ j, j < 104 → hi2 121 j = nI (xsetOf j) := fun j hj => by rw [← hG, xu_ne2 _ _ (Or.inl (by decide))]; exact p5 j hj
  have t112 : ∀ x, x < 8192 → hi2 112 x = nI (pt x) := fun x hx => by rw [← hG, xu_ne2 _ _ (Or.inl (by decide))]; exact p6 x hx
  have sI : xInv hi2 hl2 r := by
    have hn : ∀ x, x ∉ [90, 112, 121] → hi2 x = hi x := g1
    have hp : ∀ j, j ∉ [0, 29, 31] → hi2 90 j = hi 90 j := g9
    have hnl : ∀ x, x ∉ [90] → hl2 x = hl x := fun x hx => by rw [← hGl, xu_ne _ _ _ (by simpa using hx)]
    have hpl : hl2 90 14 = hl 90 14 := by rw [← hGl, xu_ne2 _ _ (Or.inr (by decide))]
    refine ⟨nb, bk, bz, ck, cn, nv, vb, vf, vs, vc, vk, ch, bo, tk, tn, P, nx, G, ln, lp, md, mt, sn, st, sc, h1.tr (lx hn (by decide)) (hp 1 (by decide)) (lx hnl (by decide)), h2.tr (lx hn (by decide)) (hp 6 (by decide)), h3.tr (hn 85 (by decide)) (hnl 85 (by decide)) (hp 13 (by decide)) hpl, h4.tr (fun a g1 g2 => hn a (by simp <;> omega)) (lx hn (by decide)) (hp 15 (by decide)) (fun a g1 g2 => hnl a (by simp <;> omega)) (hnl 103 (by decide)), h5.tr (lx hn (by decide)) (lx hnl (by decide)), h6.tr (hn 30 (by decide)) (hn 31 (by decide)) (hn 107 (by decide)) (hp 22 (by decide)), h7.tr (lx hn (by decide)), h8.tr (lx hn (by decide)) (hp 26 (by decide)), Or.inr ⟨by rw [← hG, xu_ne2 _ _ (Or.inr (by decide))]; exact p4, t121, t112⟩⟩
  rcases (show w = 0 ∨ w = 1 by omega) with rfl | rfl
  · refine ⟨nI (pt (lft sn st sc)), (hi, hl, r), (hi2, hl2, r), ?_, ?_, sI⟩
    · unfold F_X11_fewest
      rw [wi ew hw q1, xbP_some, if_neg (by decide), if_pos (show nI 0 = (0 : Int32) from rfl), least_c i5 hlt i4, xbI_some]
    · unfold F_X12_fewest F_X12_fewest_38
      simp only
      rw [ii ew hw q1', xbP_some, if_neg (by decide), p1, xbV_some, lm, xbI_some, if_pos (show nI 0 = (0 : Int32) from rfl), if_pos (show nI 0 = (0 : Int32) from rfl), if_pos (xok_t hlt (by decide)), cl_nI (by omega), t112 _ hlt]
  · have e2 : ((2 : Int32) ≤ nI (ones13 (lft sn st sc))) = (2 ≤ ones13 (lft sn st sc)) := nI_le' (a := 2) (by decide) (by have := ones_13 (lft sn st sc); omega)
    have mid : F_X12_fewest (nI 1) hi hl r = if 2 ≤ ones13 (lft sn st sc) then F_X12_fewest_56 1000000 (nI (lft sn st sc)) 0 hi2 hl2 r else some (-20, hi2, hl2, r) := by
      unfold F_X12_fewest F_X12_fewest_38
      rw [ii ew hw q1', xbP_some, if_neg (by decide), p1, xbV_some, lm, xbI_some, if_neg (by decide), if_neg (by decide), ones_m hlt, xbP_some]
      simp only [e2]
    rcases firstTry_c (hl := hl) (r := r) i5 hlt i4 with ⟨c, fc⟩ | ⟨c, y, y1, y2, y3, fc⟩
    · refine ⟨-20, (hi, hl, r), (hi2, hl2, r), ?_, ?_, sI⟩
      · unfold F_X11_fewest
        rw [wi ew hw q1, xbP_some, if_neg (by decide), if_neg (by decide), fc, xbI_some]
      · show F_X12_fewest (nI 1) hi hl r = _
        rw [mid, if_neg (by omega)]
    · refine ⟨nI y, (hi, hl, r), (hi2, hl2, r), ?_, ?_, sI⟩
      · unfold F_X11_fewest
        rw [wi ew hw q1, xbP_some, if_neg (by decide), if_neg (by decide), fc, xbI_some]
      · show F_X12_fewest (nI 1) hi hl r = _
        rw [mid, if_pos (by omega)]
        exact few56_m (hl := hl2) (r := r) hlt y1 t121 t112 y2 y3 y 1000000 0 (by omega) (by omega)
