section SHAREO
variable {hi : Nat → Nat → Int32} {hl : Nat → Nat → Int64} {r : xRr} {nb nv : Nat} {vb : Nat → Nat} {vf vs : Nat → Int} {vc vk : Nat → Nat} {ch : Nat → List Nat} {bo : Nat → Nat} {bk bz ck : Nat → Nat} {cn : Nat → Int64}
theorem sharem_out (h1 : IB nb bk bz ck cn hi hl) (h : IV nb nv vb vf vs vc vk ch bo hi) {u v : Nat} (hu : u < nv) (hv : v < nv) : ∀ k n i acc, i + k = vc u → k < n → F_X12_shares_28 n (nI u) (nI v) acc (nI i) hi hl r = some (shf (fun j => clo vf vs vc ch bo bz u (j : Int)) (fun j => clo vf vs vc ch bo bz v (j : Int)) (vc v) k i acc, hi, hl, r) := by
  have hnv := h.1
  obtain ⟨gu, gu2, -⟩ := h.2.2.2 u hu
  obtain ⟨gv, gv2, -⟩ := h.2.2.2 v hv
  intro k
  induction k with
  | zero =>
    intro n i acc hik hn
    obtain ⟨n, rfl⟩ : ∃ q, n = q + 1 := ⟨n - 1, by omega⟩
    have e : i = vc u := by omega
    unfold F_X12_shares_28
    rw [if_pos (xok_t (by omega) (by decide)), cl_nI (by omega), gu2.2.2.2.2.2.1, e, if_pos ((nI_leI (by omega) (by omega)).mpr (Nat.le_refl _))]
    rfl
  | succ k ih =>
    intro n i acc hik hn
    obtain ⟨n, rfl⟩ : ∃ q, n = q + 1 := ⟨n - 1, by omega⟩
    have g : ¬ nI (vc u) ≤ nI i := by rw [nI_leI (by omega) (by omega)]; omega
    have ki := sharem_in (r := r) h1 h hu hv (i := i) (by omega) (F_X12_shares_28 n) (vc v) 1000000 0 acc (by omega) (by omega)
    rw [show nI 0 = (0 : Int32) from rfl, ih n (i + 1) _ (by omega) (by omega)] at ki
    unfold F_X12_shares_28
    rw [if_pos (xok_t (by omega) (by decide)), cl_nI (by omega), gu2.2.2.2.2.2.1, if_neg g, ki]
    rfl
end SHAREO
theorem op_shares (a0 a1 : Int32) : xOpI xInv (F_X11_shares a0 a1) (F_X12_shares a0 a1) := by
  intro hi hl r h
  have h0 := h
  obtain ⟨nb, bk, bz, ck, cn, nv, vb, vf, vs, vc, vk, ch, bo, tk, tn, P, nx, G, ln, lp, md, mt, sn, st, sc, h1, h2, h3, h4, h5, h6, h7, h8, h9⟩ := h
  have n1 := h2.1
  have n2 := h2.2.1
  have y6 : (xu hi 90 0 (0 : Int32)) 90 6 = nI nv := by rw [xu_ne2 _ _ (Or.inr (by decide))]; exact h2.2.2.1
  rcases rng a0 (n := nv) (by omega) with ⟨u, hu, rfl, eu⟩ | hbad
  · rcases rng a1 (n := nv) (by omega) with ⟨v, hv, rfl, ev⟩ | hbad
    · have gu := (h2.2.2.2 u hu).1
      have s1 := shared_c (r := r) h1 h2 hu hv (vc u) 1000000 0 0 (by omega) (by omega)
      have s2 := sharem_out (r := r) (h1.sc (scI.p (hi := hi) (0 : Int32) (show 0 ∉ [1, 6, 13, 15, 22, 26, 29] by decide)) scL.rf) (h2.sc (scI.p (hi := hi) (0 : Int32) (show 0 ∉ [1, 6, 13, 15, 22, 26, 29] by decide))) hu hv (vc u) 1000000 0 0 (by omega) (by omega)
      rw [show nI 0 = (0 : Int32) from rfl] at s1 s2
      refine ⟨shf (fun j => clo vf vs vc ch bo bz u (j : Int)) (fun j => clo vf vs vc ch bo bz v (j : Int)) (vc v) (vc u) 0 0, (hi, hl, r), (xu hi 90 0 0, hl, r), ?_, ?_, h0.th⟩
      · unfold F_X11_shares F_X8_shared
        rw [vhas_i n2 n1 hu, xbI_some, if_neg (by decide), vhas_i n2 n1 hv, xbI_some, if_neg (by decide), s1, xbI_some]
      · unfold F_X12_shares
        simp only
        rw [mview_i y6 n1 hu, xbI_some, if_neg (by decide), mview_i y6 n1 hv, xbI_some, if_neg (by decide), s2]
    · refine ⟨-1, (hi, hl, r), (xu hi 90 0 0, hl, r), ?_, ?_, h0.th⟩
      · unfold F_X11_shares
        rw [vhas_i n2 n1 hu, xbI_some, if_neg (by decide), vhas_o n2 n1 hbad, xbI_some, if_pos rfl]
      · unfold F_X12_shares
        simp only
        rw [mview_i y6 n1 hu, xbI_some, if_neg (by decide), mview_o y6 n1 hbad, xbI_some, if_pos rfl]
  · refine ⟨-1, (hi, hl, r), (xu hi 90 0 0, hl, r), ?_, ?_, h0.th⟩
    · unfold F_X11_shares
      rw [vhas_o n2 n1 hbad, xbI_some, if_pos rfl]
    · unfold F_X12_shares
      simp only
      rw [mview_o y6 n1 hbad, xbI_some, if_pos rfl]
