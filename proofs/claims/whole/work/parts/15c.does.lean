theorem nD {a : Nat} {Z X : List Nat} (ha : a ∉ Z) (hX : X.all (fun x => decide (x ∈ Z)) = true) : a ∉ X := fun h => ha (of_decide_eq_true (List.all_eq_true.mp hX a h))
theorem nDe {a b : Nat} {Z : List Nat} (ha : a ∉ Z) (hb : decide (b ∈ Z) = true) : a ≠ b := fun e => ha (e ▸ of_decide_eq_true hb)
theorem nDr {a t : Nat} (ha : a ∉ xDI) (ht : isI t) : a ≠ t ∧ a ≠ t + 1 := by
  have := ht.rng
  simp only [xDI, List.mem_cons, List.not_mem_nil, or_false, not_or] at ha
  omega
theorem nDrL {a t : Nat} (ha : a ∉ xDL) (ht : isI t) : a ≠ t + 2 := by
  have := ht.rng
  simp only [xDL, List.mem_cons, List.not_mem_nil, or_false, not_or] at ha
  omega
theorem p4 : (4 : Int32).toInt = ((5 : Nat) : Int) - 1 := by decide +kernel
theorem p4' : (4 : Int64).toInt = ((5 : Nat) : Int) - 1 := by decide +kernel
theorem xlo {a : Nat} (ht : isI a) : ∀ x, x ∈ 90 :: 41 :: 3 :: 93 :: 113 :: xEr → x ≠ a ∧ x ≠ a + 1 := by
  intro x hx
  have := ht.rng
  simp only [xEr, List.mem_cons, List.not_mem_nil, or_false] at hx
  omega
theorem op_does (a0 a1 a2 a3 a4 : Int32) : xOpI xInv (F_X11_does a0 a1 a2 a3 a4) (F_X12_does a0 a1 a2 a3 a4) := by
  intro hi hl r h
  have h0 := h
  obtain ⟨nb, bk, bz, ck, cn, nv, vb, vf, vs, vc, vk, ch, bo, tk, tn, P, nx, G, ln, lp, md, mt, sn, st, sc, h1, h2, h3, h4, h5, h6, h7, h8, h9⟩ := h
  have n1 := h2.1
  have n2 := h2.2.1
  have y6 : (xu hi 90 0 (0 : Int32)) 90 6 = nI nv := by rw [xu_ne2 _ _ (Or.inr (by decide))]; exact h2.2.2.1
  obtain ⟨E, hE, hC, hM, hO, eE⟩ := ev_of h1 h2
  rcases (rng a0 (n := 5) (by omega)).symm with hbad | ⟨w, hw, rfl, ew⟩
  · refine ⟨-1, (hi, hl, r), (xu hi 90 0 0, hl, r), ?_, ?_, h0.th⟩
    · unfold F_X11_does
      rw [wo hbad p4, xbP_some, if_pos rfl]
    · unfold F_X12_does
      simp only
      rw [io hbad p4', xbP_some, if_pos rfl]
  rcases (rng a1 (n := nv) (by omega)).symm with hbad | ⟨u, hu, rfl, eu⟩
  · refine ⟨-1, (hi, hl, r), (xu hi 90 0 0, hl, r), ?_, ?_, h0.th⟩
    · unfold F_X11_does
      rw [wi ew hw p4, xbP_some, if_neg (by decide), vhas_o n2 n1 hbad, xbI_some, if_pos rfl]
    · unfold F_X12_does
      simp only
      rw [ii ew hw p4', xbP_some, if_neg (by decide), mview_o y6 n1 hbad, xbI_some, if_pos rfl]
  rcases (rng a3 (n := nv) (by omega)).symm with hbad | ⟨v, hv, rfl, ev⟩
  · refine ⟨-1, (hi, hl, r), (xu hi 90 0 0, hl, r), ?_, ?_, h0.th⟩
    · unfold F_X11_does
      rw [wi ew hw p4, xbP_some, if_neg (by decide), vhas_i n2 n1 hu, xbI_some, if_neg (by decide)]
      rcases (rng a2 (n := 12) (by omega)).symm with hbad2 | ⟨p, hp, rfl, ep⟩
      · rw [isPl_o hbad2, xbP_some, if_pos rfl]
      · rw [isPl_i ep hp, xbP_some, if_neg (by decide), vhas_o n2 n1 hbad, xbI_some, if_pos rfl]
    · unfold F_X12_does
      simp only
      rw [ii ew hw p4', xbP_some, if_neg (by decide), mview_i y6 n1 hu, xbI_some, if_neg (by decide), mview_o y6 n1 hbad, xbI_some, if_pos rfl]
  rcases (rng a2 (n := 12) (by omega)).symm with hbad | ⟨p, hp, rfl, ep⟩
  · refine ⟨-1, (hi, hl, r), (xu hi 90 0 0, hl, r), ?_, ?_, h0.th⟩
    · unfold F_X11_does
      rw [wi ew hw p4, xbP_some, if_neg (by decide), vhas_i n2 n1 hu, xbI_some, if_neg (by decide), isPl_o hbad, xbP_some, if_pos rfl]
    · unfold F_X12_does
      simp only
      rw [ii ew hw p4', xbP_some, if_neg (by decide), mview_i y6 n1 hu, xbI_some, if_neg (by decide), mview_i y6 n1 hv, xbI_some, if_neg (by decide), io hbad p11', xbP_some, if_pos rfl]
  rcases (rng a4 (n := 12) (by omega)).symm with hbad | ⟨q, hq, rfl, eq⟩
  · refine ⟨-1, (hi, hl, r), (xu hi 90 0 0, hl, r), ?_, ?_, h0.th⟩
    · unfold F_X11_does
      rw [wi ew hw p4, xbP_some, if_neg (by decide), vhas_i n2 n1 hu, xbI_some, if_neg (by decide), isPl_i ep hp, xbP_some, if_neg (by decide), vhas_i n2 n1 hv, xbI_some, if_neg (by decide), isPl_o hbad, xbP_some, if_pos rfl]
    · unfold F_X12_does
      simp only
      rw [ii ew hw p4', xbP_some, if_neg (by decide), mview_i y6 n1 hu, xbI_some, if_neg (by decide), mview_i y6 n1 hv, xbI_some, if_neg (by decide), ii ep hp p11', xbP_some, if_neg (by decide), io hbad p11', xbP_some, if_pos rfl]
  have hnb := h1.1
  obtain ⟨u1, u2, u3, u4, u5, u6, u7⟩ := h4
  have h4 : IU nb bk P nx hi hl r := ⟨u1, u2, u3, u4, u5, u6, u7⟩
  have ho := u6.1
  have hr := ho.rng
  obtain ⟨t2, ht2, -, -⟩ := u6.2.1 nx u2
  obtain ⟨hi1, hl1, m1, m2, m3, m4⟩ := mark_i h1 h4
  have lo := xlo ho
  have f1 : ∀ x, x ∈ 90 :: 41 :: 3 :: 93 :: 113 :: xEr → hi1 x = hi x := fun x hx => m2 x (lo x hx).1 (lo x hx).2
  have hE1 : EV nb nv vb E hi1 := hE.fr (fun x hx => f1 x (by simp only [List.mem_cons]; exact Or.inr (Or.inr (Or.inr (Or.inr (Or.inr hx)))))) (by rw [f1 90 (by decide)]) (by rw [f1 90 (by decide)])
  have hC1 : CC nb ck cn hi1 hl1 := hC.fr (f1 3 (by decide)) (m3 4 (by omega))
  obtain ⟨hi2, hl2, k1, k2, k3, k4⟩ := perform_c (r := r) (C := (ck, cn)) (w := w) (a := u) (p := p) (b := v) (q := q) hE1 hC1 hO (by omega) hu (by omega) hv (by omega)
  have hO' := stp_ok (C := (ck, cn)) (w := w) hE hO (p : Int) (q : Int) hu hv
  generalize eC : (stp E (ck, cn) w u (p : Int) v (q : Int)).2 = C' at k2 hO'
  generalize ecd : (stp E (ck, cn) w u (p : Int) v (q : Int)).1 = cd at k1
  have eB : eBk E = bk := by rw [eE]
  rw [eB] at hO'
  /- the reference, from a state that has the class's rows changed alone -/
  have ref : ∀ (hiX : Nat → Nat → Int32) (rX : xRr), (∀ x, 76 ≤ x → hiX x = hi x) → EV nb nv vb E hiX → ∃ hi5 hl5, F_X12_does (nI w) (nI u) (nI p) (nI v) (nI q) hiX hl2 rX = (if cd = 0 then xbV (F_X12_know hi5 hl5 rX) (fun hi22 hl22 r22 => some (cd, hi22, hl22, r22)) else some (cd, hi5, hl5, rX)) ∧ MC nb C'.1 C'.2 hi5 hl5 ∧ (∀ x, x ∉ [90, 93, 113] → hi5 x = hiX x) ∧ (∀ j, j ∉ [0, 31, 33] → hi5 90 j = hi 90 j) ∧ (∀ x, x ∉ [90, 94, 114] → hl5 x = hl2 x) ∧ (∀ j, j ≠ 32 → hl5 90 j = hl2 90 j) ∧ (∀ j, j < 12 * nb → hi5 113 j = nI (ck j) ∧ hl5 114 j = cn j) := by
    intro hiX rX hX hEX
    have z6 : (xu hiX 90 0 (0 : Int32)) 90 6 = nI nv := by rw [xu_ne2 _ _ (Or.inr (by decide)), hX 90 (by decide)]; exact h2.2.2.1
    have cp := copy_m (hi := xu hiX 90 0 0) (hl := hl2) (r := rX) (a := 113) (b := 114) (lo := 0) (N := 72) (by decide) (by decide) (by decide) (by decide) (by decide) (by decide) (by decide) (by decide)
    rw [show nI 0 = (0 : Int32) from rfl] at cp
    generalize hA : xfill (xu hiX 90 0 0) 113 0 72 (fun j => (xu hiX 90 0 0) 93 (j - 0)) = hi4 at cp
    generalize hB : xfill hl2 114 0 72 (fun j => hl2 94 (j - 0)) = hl4 at cp
    have fA : ∀ x, x ∉ [90, 113] → hi4 x = hiX x := by
      intro x hx
      simp only [List.mem_cons, List.not_mem_nil, or_false, not_or] at hx
      rw [← hA, xfill_ne _ _ _ _ hx.2, xu_ne _ _ _ hx.1]
    have fA9 : ∀ j, j ≠ 0 → hi4 90 j = hiX 90 j := fun j hj => by rw [← hA, xfill_ne _ _ _ _ (by decide), xu_ne2 _ _ (Or.inr hj)]
    have fB : ∀ x, x ≠ 114 → hl4 x = hl2 x := fun x hx => by rw [← hB, xfill_ne _ _ _ _ hx]
    have hE4 : EV nb nv vb E hi4 := hEX.fr (fun x hx => fA x (fun e => by
      simp only [List.mem_cons, List.not_mem_nil, or_false] at e
      rcases e with rfl | rfl
      · exact absurd hx (by decide)
      · exact absurd hx (by decide))) (fA9 1 (by decide)) (fA9 6 (by decide))
    have l94 : hl2 94 = hl 94 := by rw [k4 94 (by decide), m3 94 (by omega)]
    have hM4 : MC nb ck cn hi4 hl4 := hM.fr (by rw [fA 93 (by decide), hX 93 (by decide)]) (by rw [fB 94 (by decide), l94])
    obtain ⟨hi5, hl5, g1, g2, g3, g4⟩ := goes_m (r := rX) (C := (ck, cn)) (w := w) (a := u) (p := p) (b := v) (q := q) hE4 hM4 hO (by omega) hu (by omega) hv (by omega)
    rw [eC] at g2
    rw [ecd] at g1
    refine ⟨hi5, hl5, ?_, g2, fun x hx => ?_, fun j hj => ?_, fun x hx => ?_, fun j hj => ?_, fun j hj => ⟨?_, ?_⟩⟩
    · unfold F_X12_does
      rw [ii ew hw p4', xbP_some, if_neg (by decide), mview_i z6 n1 hu, xbI_some, if_neg (by decide), mview_i z6 n1 hv, xbI_some, if_neg (by decide), ii ep hp p11', xbP_some, if_neg (by decide), ii eq hq p11', xbP_some, if_neg (by decide), cp, xbV_some, g1, xbI_some]
    · rw [g3.1 x (nD hx (by decide)), fA x (nD hx (by decide))]
    · rw [g3.2 j (nD hj (by decide)), fA9 j (nDe hj (by decide)), hX 90 (by decide)]
    · rw [g4.1 x (nD hx (by decide)), fB x (nDe hx (by decide))]
    · rw [g4.2 j hj, fB 90 (by decide)]
    · rw [g3.1 113 (by decide), ← hA, xfill_in _ _ _ _ _ (by omega) (by omega), xu_ne2 _ _ (Or.inl (by decide)), hX 93 (by decide), Nat.sub_zero]
      exact (hM j hj).1
    · rw [g4.1 114 (by decide), ← hB, xfill_in _ _ _ _ _ (by omega) (by omega), l94, Nat.sub_zero]
      exact (hM j hj).2
  have kX : ∀ x, 76 ≤ x → hi2 x = hi x := fun x hx => by rw [k3 x (by simp; omega), m2 x (by omega) (by omega)]
  have hE2 : EV nb nv vb E hi2 := hE1.ne k3 (by decide)
  have cls : F_X11_does (nI w) (nI u) (nI p) (nI v) (nI q) hi hl r = (if cd = 0 then xbV (F_X1_keepMark hi2 hl2 r) (fun hi22 hl22 r22 => some (cd, hi22, hl22, r22)) else some (cd, hi2, hl2, r)) := by
    unfold F_X11_does
    rw [wi ew hw p4, xbP_some, if_neg (by decide), vhas_i n2 n1 hu, xbI_some, if_neg (by decide), isPl_i ep hp, xbP_some, if_neg (by decide), vhas_i n2 n1 hv, xbI_some, if_neg (by decide), isPl_i eq hq, xbP_some, if_neg (by decide), m1, xbV_some, k1, xbI_some]
  by_cases c0 : cd = 0
  · have kk := keepMark_c (hi := hi2) (hl := hl2) (r := r) (nx := nx) (L := P.length) (by rw [k3 41 (by decide), f1 41 (by decide)]; exact u3) (by rw [k3 41 (by decide), f1 41 (by decide)]; exact u4) u2 u1 ht2 ho
    generalize hG : xu (xu hi2 41 2 (nI ((nx + 1) % 10))) 41 3 (nI (min (P.length + 1) 10)) = hi3 at kk
    have f3 : ∀ x, x ≠ 41 → hi3 x = hi2 x := fun x hx => by rw [← hG, xu_ne _ _ _ hx, xu_ne _ _ _ hx]
    have hE3 : EV nb nv vb E hi3 := hE2.ne (X := [41]) (fun x hx => f3 x (by simpa using hx)) (by decide)
    obtain ⟨hi5, hl5, r1, r2, r3, r4, r5, r6, r7⟩ := ref hi3 (t2, va_up r.2 nx (some r.1)) (fun x hx => by rw [f3 x (by omega), kX x hx]) hE3
    rw [if_pos c0] at r1 cls
    have g5 : ∀ x, x ∉ [90, 93, 113, 41, 3, 15, 16] → x ≠ r.1 → x ≠ r.1 + 1 → hi5 x = hi x := fun x hx z1 z2 => by rw [r3 x (nD hx (by decide)), f3 x (nDe hx (by decide)), k3 x (nD hx (by decide)), m2 x z1 z2]
    have g5l : ∀ x, x ∉ [90, 94, 114, 4, 15, 16] → x ≠ r.1 + 2 → hl5 x = hl x := fun x hx z1 => by rw [r5 x (nD hx (by decide)), k4 x (nD hx (by decide)), m3 x z1]
    obtain ⟨hi6, hl6, q1, q2, q3, q4, q5⟩ := know_i h4 (okcs_of h1) hnb (hi5 := hi5) (hl5 := hl5) ht2 (fun x z1 z2 z3 z4 => g5 x (by simp; omega) z3 z4) (fun x z1 z2 z3 => g5l x (by simp; omega) z3)
      (m4.tr (by rw [r3 _ (by simp; omega), f3 _ (by omega), k3 _ (by simp; omega)]) (by rw [r3 _ (by simp; omega), f3 _ (by omega), k3 _ (by simp; omega)]) (by rw [r5 _ (by simp; omega), k4 _ (by simp; omega)]))
      (by rw [r3 41 (by decide), ← hG, xu_ne2 _ _ (Or.inr (by decide)), xu_at]) (by rw [r3 41 (by decide), ← hG, xu_at])
      (fun x hx => by
        simp only [List.mem_cons, List.not_mem_nil, or_false] at hx
        exact g5 x (by simp; omega) (by omega) (by omega)) (g5l 103 (by decide) (by omega)) (r4 15 (by decide)) (by rw [r4 1 (by decide)]; exact h1.2.2.1) r7
    refine ⟨cd, (hi3, hl2, (t2, va_up r.2 nx (some r.1))), (hi6, hl6, (t2, va_up r.2 nx (some r.1))), ?_, ?_, ?_⟩
    · rw [cls, kk, xbV_some]
    · show F_X12_does (nI w) (nI u) (nI p) (nI v) (nI q) hi3 hl2 (t2, va_up r.2 nx (some r.1)) = _
      rw [r1, q1, xbV_some]
    · refine xInv_deed (ck' := C'.1) (cn' := C'.2) h1 h2 h3 h5 h6 h8 h9 (fun x hx => ?_) (fun j hj => ?_) (fun x hx => ?_) ?_ ?_ ?_ hO' q5 (h7.tr ?_)
      · show hi6 x = _
        rw [q2 x (nD hx (by decide)), g5 x (nD hx (by decide)) (nDr hx ho).1 (nDr hx ho).2]
      · show hi6 90 j = _
        rw [q3 j (fun e => by subst e; exact absurd hj (by decide)), r4 j (fun e => by
          simp only [List.mem_cons, List.not_mem_nil, or_false] at e hj
          omega)]
      · show hl6 x = _
        rw [q4 x (nDe hx (by decide)), g5l x (nD hx (by decide)) (nDrL hx ho)]
      · show hl6 90 14 = _
        rw [q4 90 (by decide), r6 14 (by decide), k4 90 (by decide), m3 90 (by omega)]
      · exact k2.fr (by show hi6 3 = _; rw [q2 3 (by decide), r3 3 (by decide), f3 3 (by decide)]) (by show hl6 4 = _; rw [q4 4 (by decide), r5 4 (by decide)])
      · exact r2.fr (q2 93 (by decide)) (q4 94 (by decide))
      · intro x hx
        show hi6 x = _
        simp only [List.mem_cons, List.not_mem_nil, or_false] at hx
        rw [q2 x (by simp; omega), g5 x (by simp; omega) (by omega) (by omega)]
  · obtain ⟨hi5, hl5, r1, r2, r3, r4, r5, r6, r7⟩ := ref hi2 r kX hE2
    rw [if_neg c0] at r1 cls
    have g5 : ∀ x, x ∉ [90, 93, 113, 3, 15, 16] → x ≠ r.1 → x ≠ r.1 + 1 → hi5 x = hi x := fun x hx z1 z2 => by rw [r3 x (nD hx (by decide)), k3 x (nD hx (by decide)), m2 x z1 z2]
    have g5l : ∀ x, x ∉ [90, 94, 114, 4, 15, 16] → x ≠ r.1 + 2 → hl5 x = hl x := fun x hx z1 => by rw [r5 x (nD hx (by decide)), k4 x (nD hx (by decide)), m3 x z1]
    refine ⟨cd, (hi2, hl2, r), (hi5, hl5, r), cls, r1, ?_⟩
    refine xInv_deed (ck' := C'.1) (cn' := C'.2) (P' := P) (nx' := nx) h1 h2 h3 h5 h6 h8 h9 (fun x hx => ?_) (fun j hj => ?_) (fun x hx => ?_) ?_ ?_ r2 hO' (h4.mk (fun x z1 z2 z3 z4 => g5 x (by simp; omega) z3 z4) (fun x hx => by
        simp only [List.mem_cons, List.not_mem_nil, or_false] at hx
        exact g5 x (by simp; omega) (by omega) (by omega)) (r4 15 (by decide)) (fun x z1 z2 z3 => g5l x (by simp; omega) z3) (g5l 103 (by decide) (by omega))) (h7.tr ?_)
    · show hi5 x = _
      rw [g5 x (nD hx (by decide)) (nDr hx ho).1 (nDr hx ho).2]
    · show hi5 90 j = _
      rw [r4 j (fun e => by
          simp only [List.mem_cons, List.not_mem_nil, or_false] at e hj
          omega)]
    · show hl5 x = _
      rw [g5l x (nD hx (by decide)) (nDrL hx ho)]
    · show hl5 90 14 = _
      rw [r6 14 (by decide), k4 90 (by decide), m3 90 (by omega)]
    · exact k2.fr (r3 3 (by decide)) (r5 4 (by decide))
    · intro x hx
      show hi5 x = _
      simp only [List.mem_cons, List.not_mem_nil, or_false] at hx
      rw [g5 x (by simp; omega) (by omega) (by omega)]
