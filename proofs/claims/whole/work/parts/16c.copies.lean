/-- what copies come to -/
noncomputable def cpy (E : yE) (C : yC) (a b o : Nat) : Nat × yC := if o = 2 then cp2 E a b (fun p => thg E C a (p : Int)) (min (eVc E a) (eVc E b)) 0 (rbs E a (min (eVc E a) (eVc E b)), C) else cpf E a b (pls o (min (eVc E a) (eVc E b)) (min (eVc E a) (eVc E b)) 0) (0, C)
def xCl : List Nat := [3, 15, 16, 18, 19, 20, 21, 22, 23, 24, 25, 26, 27, 28, 29]
def xClL : List Nat := [4, 15, 16, 18, 19, 20, 21, 22, 23, 24, 25, 26, 27, 28, 29]
section COPYO
variable {r : xRr} {nb nv : Nat} {vb : Nat → Nat} {E : yE} {C : yC} {hi : Nat → Nat → Int32} {hl : Nat → Nat → Int64}
theorem cpy_ok (h : EV nb nv vb E hi) (hO : OKC nb (eBk E) C.1 C.2) {a b : Nat} (o : Nat) (ha : a < nv) (hb : b < nv) : OKC nb (eBk E) (cpy E C a b o).2.1 (cpy E C a b o).2.2 := by
  unfold cpy
  have gu := (h.2.2.2.2 a ha).1
  by_cases c : o = 2
  · rw [if_pos c]
    exact cp2_ok h hb (m := min (eVc E a) (eVc E b)) (fun p hp hr => thg_ok h hO ha hr) _ 0 (rbs E a (min (eVc E a) (eVc E b)), C) (by omega) (fun p h1 h2 h3 => rbs_bit E a _ p h2 h3) hO
  · rw [if_neg c]
    exact cpf_ok h ha hb _ (0, C) hO
theorem copies_c (h : EV nb nv vb E hi) (hC : CC nb C.1 C.2 hi hl) (hO : OKC nb (eBk E) C.1 C.2) {a b o : Nat} (ha : a < nv) (hb : b < nv) (ho : o ≤ 2) : ∃ hi' hl', (if nI o = (2 : Int32) then F_X5_copyAtOnce (nI a) (nI b) hi hl r else if nI o = (1 : Int32) then F_X5_copyInOrder (nI a) (nI b) 1 hi hl r else F_X5_copyInOrder (nI a) (nI b) 0 hi hl r) = some (nI (cpy E C a b o).1, hi', hl', r) ∧ CC nb (cpy E C a b o).2.1 (cpy E C a b o).2.2 hi' hl' ∧ (∀ x, x ∉ xCl → hi' x = hi x) ∧ (∀ x, x ∉ xClL → hl' x = hl x) := by
  have gu := (h.2.2.2.2 a ha).1
  have gv := (h.2.2.2.2 b hb).1
  have n8 := h.2.1
  have e2 : (nI o = (2 : Int32)) = (o = 2) := nI_eq' (b := 2) (by omega) (by decide)
  have e1 : (nI o = (1 : Int32)) = (o = 1) := nI_eq' (b := 1) (by omega) (by decide)
  have lc := lesser_c h.2 ha hb
  unfold cpy
  simp only [e1, e2]
  have hm12 : min (eVc E a) (eVc E b) ≤ 12 := by omega
  generalize min (eVc E a) (eVc E b) = m at lc hm12
  by_cases c : o = 2
  · simp only [if_pos c]
    obtain ⟨hi1, hl1, k1, k2, k3, k4⟩ := once1_c (r := r) (b := b) (C := C) ha hm12 hO m 1000000 0 hi hl (by omega) (by omega) h hC (fun p hp => by omega)
    have hE1 : EV nb nv vb E hi1 := h.ne k2 (by decide)
    obtain ⟨hi2, hl2, q1, q2, q3, q4⟩ := once2_c (r := r) (X := fun p => thg E C a (p : Int)) ha hb hm12 (fun p hp hr => thg_ok h hO ha hr) m 1000000 0 (rbs E a m, C) hi1 hl1 (by omega) (by omega) (rbs_lt E a m hm12) hE1 (hC.fr (k2 3 (by decide)) (k3 4 (by decide))) (fun p h1 h2 h3 => rbs_bit E a m p h2 h3) (fun p h1 h2 h3 => k4 p h2 h3)
    refine ⟨hi2, hl2, ?_, q2, fun x hx => by rw [q3 x (nD hx (by decide)), k2 x (nD hx (by decide))], fun x hx => by rw [q4 x (nD hx (by decide)), k3 x (nD hx (by decide))]⟩
    unfold F_X5_copyAtOnce
    rw [if_pos (xok_t (by omega) (by decide)), if_pos (xok_t (by omega) (by decide)), cl_nI (by omega), cl_nI (by omega), lc]
    exact k1.trans q1
  · simp only [if_neg c]
    have go : ∀ v3 : Int32, (v3 = 0) = (o = 0) → ∃ hi' hl', F_X5_copyInOrder (nI a) (nI b) v3 hi hl r = some (nI (cpf E a b (pls o m m 0) (0, C)).1, hi', hl', r) ∧ CC nb (cpf E a b (pls o m m 0) (0, C)).2.1 (cpf E a b (pls o m m 0) (0, C)).2.2 hi' hl' ∧ (∀ x, x ∉ xCl → hi' x = hi x) ∧ (∀ x, x ∉ xClL → hl' x = hl x) := by
      intro v3 h3
      obtain ⟨hi1, hl1, k1, k2, k3, k4⟩ := copyIn_c (r := r) ha hb hm12 h3 m 1000000 0 0 C hi hl (by omega) (by omega) (by decide) h hC hO
      refine ⟨hi1, hl1, ?_, k2, fun x hx => k3 x (nD hx (by decide)), fun x hx => k4 x (nD hx (by decide))⟩
      unfold F_X5_copyInOrder
      rw [if_pos (xok_t (by omega) (by decide)), if_pos (xok_t (by omega) (by decide)), cl_nI (by omega), cl_nI (by omega), lc]
      exact k1
    by_cases d : o = 1
    · simp only [if_pos d]
      exact go 1 (by rw [d]; decide)
    · simp only [if_neg d]
      have z : o = 0 := by omega
      exact go 0 (by rw [z]; decide)
theorem copies_m (h : EV nb nv vb E hi) (hC : MC nb C.1 C.2 hi hl) (hO : OKC nb (eBk E) C.1 C.2) {a b o : Nat} (ha : a < nv) (hb : b < nv) (ho : o ≤ 2) : ∃ hi' hl', (if nI o = (2 : Int32) then xbI (F_X12_copiesAll (nI a) (nI b) (nI (min (eVc E a) (eVc E b))) hi hl r) (fun w18 hi18 hl18 r18 => some (w18, hi18, hl18, r18)) else F_X12_copies_80 1000000 (nI a) (nI b) (nI o) (nI (min (eVc E a) (eVc E b))) 0 0 hi hl r) = some (nI (cpy E C a b o).1, hi', hl', r) ∧ MC nb (cpy E C a b o).2.1 (cpy E C a b o).2.2 hi' hl' ∧ mJ hi hi' ∧ mK hl hl' := by
  have gu := (h.2.2.2.2 a ha).1
  have gv := (h.2.2.2.2 b hb).1
  have e2 : (nI o = (2 : Int32)) = (o = 2) := nI_eq' (b := 2) (by omega) (by decide)
  unfold cpy
  simp only [e2]
  have hm12 : min (eVc E a) (eVc E b) ≤ 12 := by omega
  generalize min (eVc E a) (eVc E b) = m at hm12
  by_cases c : o = 2
  · simp only [if_pos c]
    obtain ⟨hi1, hl1, k1, k2, k3, k4, k5⟩ := once1_m (r := r) (b := b) (C := C) ha hm12 m 1000000 0 hi hl (by omega) (by omega) h hC (fun p hp => by omega)
    obtain ⟨hi2, hl2, q1, q2, q3, q4⟩ := once2_m (r := r) (X := fun p => thg E C a (p : Int)) ha hb hm12 (fun p hp hr => ⟨thg_ok h hO ha hr, thg_k h ha (p : Int)⟩) m 1000000 0 (rbs E a m, C) hi1 hl1 (by omega) (by omega) (rbs_lt E a m hm12) (h.j k3) k2 (fun p h1 h2 h3 => rbs_bit E a m p h2 h3) (fun p h1 h2 h3 => k5 p h2 h3)
    refine ⟨hi2, hl2, ?_, q2, k3.trans q3.J, k4.trans q4.K⟩
    have e : F_X12_copiesAll (nI a) (nI b) (nI m) hi hl r = some (nI (cp2 E a b (fun p => thg E C a (p : Int)) m 0 (rbs E a m, C)).1, hi2, hl2, r) := by
      unfold F_X12_copiesAll
      exact k1.trans q1
    rw [e, xbI_some]
  · simp only [if_neg c]
    obtain ⟨hi1, hl1, k1, k2, k3, k4⟩ := copyIn_m (r := r) ha hb hm12 (o := o) (by omega) m 1000000 0 0 C hi hl (by omega) (by omega) (by decide) h hC hO
    exact ⟨hi1, hl1, k1, k2, k3.J, k4.K⟩
end COPYO
theorem op_copies (a0 a1 a2 : Int32) : xOpI xInv (F_X11_copies a0 a1 a2) (F_X12_copies a0 a1 a2) := by
  intro hi hl r h
  have h0 := h
  obtain ⟨nb, bk, bz, ck, cn, nv, vb, vf, vs, vc, vk, ch, bo, tk, tn, P, nx, G, ln, lp, md, mt, sn, st, sc, h1, h2, h3, h4, h5, h6, h7, h8, h9⟩ := h
  have n1 := h2.1
  have n2 := h2.2.1
  have y6 : (xu hi 90 0 (0 : Int32)) 90 6 = nI nv := by rw [xu_ne2 _ _ (Or.inr (by decide))]; exact h2.2.2.1
  obtain ⟨E, hE, hC, hM, hO, eE⟩ := ev_of h1 h2
  rcases (rng a0 (n := nv) (by omega)).symm with hbad | ⟨u, hu, rfl, eu⟩
  · refine ⟨-1, (hi, hl, r), (xu hi 90 0 0, hl, r), ?_, ?_, h0.th⟩
    · unfold F_X11_copies
      rw [vhas_o n2 n1 hbad, xbI_some, if_pos rfl]
    · unfold F_X12_copies
      simp only
      rw [mview_o y6 n1 hbad, xbI_some, if_pos rfl]
  rcases (rng a1 (n := nv) (by omega)).symm with hbad | ⟨v, hv, rfl, ev⟩
  · refine ⟨-1, (hi, hl, r), (xu hi 90 0 0, hl, r), ?_, ?_, h0.th⟩
    · unfold F_X11_copies
      rw [vhas_i n2 n1 hu, xbI_some, if_neg (by decide), vhas_o n2 n1 hbad, xbI_some, if_pos rfl]
    · unfold F_X12_copies
      simp only
      rw [mview_i y6 n1 hu, xbI_some, if_neg (by decide), mview_o y6 n1 hbad, xbI_some, if_pos rfl]
  rcases (rng a2 (n := 3) (by omega)).symm with hbad | ⟨o, ho3, rfl, eo⟩
  · refine ⟨-1, (hi, hl, r), (xu hi 90 0 0, hl, r), ?_, ?_, h0.th⟩
    · unfold F_X11_copies
      rw [vhas_i n2 n1 hu, xbI_some, if_neg (by decide), vhas_i n2 n1 hv, xbI_some, if_neg (by decide), wo hbad p2, xbP_some, if_pos rfl]
    · unfold F_X12_copies
      simp only
      rw [mview_i y6 n1 hu, xbI_some, if_neg (by decide), mview_i y6 n1 hv, xbI_some, if_neg (by decide), io hbad p2', xbP_some, if_pos rfl]
  have hnb := h1.1
  obtain ⟨u1, u2, u3, u4, u5, u6, u7⟩ := h4
  have h4 : IU nb bk P nx hi hl r := ⟨u1, u2, u3, u4, u5, u6, u7⟩
  have ho := u6.1
  have hr := ho.rng
  obtain ⟨t2, ht2, -, -⟩ := u6.2.1 nx u2
  obtain ⟨hi1, hl1, m1, m2, m3, m4⟩ := mark_i h1 h4
  have lo := xlo ho
  have f1 : ∀ x, x ∈ 90 :: 41 :: 3 :: 93 :: 113 :: xEr → hi1 x = hi x := fun x hx => m2 x (lo x hx).1 (lo x hx).2
  have hE1 : EV nb nv vb E hi1 := hE.fr (fun x hx => f1 x (by simp only [List.mem_cons]; exact Or.inr (Or.inr (Or.inr (Or.inr (Or.inr hx)))))) (by rw [f1 90 (by decide)]) (by rw [f1 90 (by decide)])
  have hC1 : CC nb ck cn hi1 hl1 := hC.fr (f1 3 (by decide)) (m3 4 (by omega))
  obtain ⟨hi2, hl2, k1, k2, k3, k4⟩ := copies_c (r := r) (C := (ck, cn)) (a := u) (b := v) (o := o) hE1 hC1 hO hu hv (by omega)
  have hO' := cpy_ok (C := (ck, cn)) hE hO o hu hv
  have eB : eBk E = bk := by rw [eE]
  rw [eB] at hO'
  have hE2 : EV nb nv vb E hi2 := hE1.ne k3 (by decide)
  have kX : ∀ x, 76 ≤ x → hi2 x = hi x := fun x hx => by rw [k3 x (by simp only [xCl, List.mem_cons, List.not_mem_nil, or_false]; omega), m2 x (by omega) (by omega)]
  have kXl : ∀ x, 76 ≤ x → hl2 x = hl x := fun x hx => by rw [k4 x (by simp only [xClL, List.mem_cons, List.not_mem_nil, or_false]; omega), m3 x (by omega)]
  have kk := keepMark_c (hi := hi2) (hl := hl2) (r := r) (nx := nx) (L := P.length) (by rw [k3 41 (by decide), f1 41 (by decide)]; exact u3) (by rw [k3 41 (by decide), f1 41 (by decide)]; exact u4) u2 u1 ht2 ho
  have cls : F_X11_copies (nI u) (nI v) (nI o) hi hl r = xbV (F_X1_keepMark hi2 hl2 r) (fun hi5 hl5 r5 => some (nI (cpy E (ck, cn) u v o).1, hi5, hl5, r5)) := by
    unfold F_X11_copies F_X11_copies_77 F_X11_copies_80
    rw [vhas_i n2 n1 hu, xbI_some, if_neg (by decide), vhas_i n2 n1 hv, xbI_some, if_neg (by decide), wi eo ho3 p2, xbP_some, if_neg (by decide), m1, xbV_some]
    by_cases c : nI o = (2 : Int32)
    · rw [if_pos c] at k1 ⊢
      rw [k1, xbI_some]
    · rw [if_neg c] at k1 ⊢
      by_cases d : nI o = (1 : Int32)
      · rw [if_pos d] at k1 ⊢
        rw [k1, xbI_some]
      · rw [if_neg d] at k1 ⊢
        rw [k1, xbI_some]
  generalize hG : xu (xu hi2 41 2 (nI ((nx + 1) % 10))) 41 3 (nI (min (P.length + 1) 10)) = hi3 at kk
  have f3 : ∀ x, x ≠ 41 → hi3 x = hi2 x := fun x hx => by rw [← hG, xu_ne _ _ _ hx, xu_ne _ _ _ hx]
  have hE3 : EV nb nv vb E hi3 := hE2.ne (X := [41]) (fun x hx => f3 x (by simpa using hx)) (by decide)
  have z6 : (xu hi3 90 0 (0 : Int32)) 90 6 = nI nv := by rw [xu_ne2 _ _ (Or.inr (by decide)), f3 90 (by decide), kX 90 (by decide)]; exact h2.2.2.1
  have cp := copy_m (hi := xu hi3 90 0 0) (hl := hl2) (r := (t2, va_up r.2 nx (some r.1))) (a := 113) (b := 114) (lo := 0) (N := 72) (by decide) (by decide) (by decide) (by decide) (by decide) (by decide) (by decide) (by decide)
  rw [show nI 0 = (0 : Int32) from rfl] at cp
  generalize hA : xfill (xu hi3 90 0 0) 113 0 72 (fun j => (xu hi3 90 0 0) 93 (j - 0)) = hi5 at cp
  generalize hB : xfill hl2 114 0 72 (fun j => hl2 94 (j - 0)) = hl5 at cp
  have g3 : ∀ x, x ∉ [90, 113] → hi5 x = hi3 x := by
    intro x hx
    simp only [List.mem_cons, List.not_mem_nil, or_false, not_or] at hx
    rw [← hA, xfill_ne _ _ _ _ hx.2, xu_ne _ _ _ hx.1]
  have g39 : ∀ j, j ≠ 0 → hi5 90 j = hi 90 j := fun j hj => by rw [← hA, xfill_ne _ _ _ _ (by decide), xu_ne2 _ _ (Or.inr hj), f3 90 (by decide), kX 90 (by decide)]
  have g4 : ∀ x, x ≠ 114 → hl5 x = hl2 x := fun x hx => by rw [← hB, xfill_ne _ _ _ _ hx]
  have g5 : ∀ x, x ∉ 90 :: 113 :: 41 :: xCl → x ≠ r.1 → x ≠ r.1 + 1 → hi5 x = hi x := fun x hx z1 z2 => by rw [g3 x (nD hx (by decide)), f3 x (nDe hx (by decide)), k3 x (nD hx (by decide)), m2 x z1 z2]
  have g5l : ∀ x, x ∉ 114 :: xClL → x ≠ r.1 + 2 → hl5 x = hl x := fun x hx z1 => by rw [g4 x (nDe hx (by decide)), k4 x (nD hx (by decide)), m3 x z1]
  obtain ⟨hi6, hl6, q1, q2, q3, q4, q5⟩ := know_i h4 (okcs_of h1) hnb (hi5 := hi5) (hl5 := hl5) ht2 (fun x z1 z2 z3 z4 => g5 x (by simp [xCl]; omega) z3 z4) (fun x z1 z2 z3 => g5l x (by simp [xClL]; omega) z3)
    (m4.tr (by rw [g3 _ (by simp; omega), f3 _ (by omega), k3 _ (by simp [xCl]; omega)]) (by rw [g3 _ (by simp; omega), f3 _ (by omega), k3 _ (by simp [xCl]; omega)]) (by rw [g4 _ (by omega), k4 _ (by simp [xClL]; omega)]))
    (by rw [g3 41 (by decide), ← hG, xu_ne2 _ _ (Or.inr (by decide)), xu_at]) (by rw [g3 41 (by decide), ← hG, xu_at])
    (fun x hx => by
      simp only [List.mem_cons, List.not_mem_nil, or_false] at hx
      exact g5 x (by simp [xCl]; omega) (by omega) (by omega)) (g5l 103 (by decide) (by omega)) (g39 15 (by decide)) (by rw [g39 1 (by decide)]; exact h1.2.2.1) (fun j hj => ⟨by
        rw [← hA, xfill_in _ _ _ _ _ (by omega) (by omega), xu_ne2 _ _ (Or.inl (by decide)), f3 93 (by decide), kX 93 (by decide), Nat.sub_zero]
        exact (hM j hj).1, by
        rw [← hB, xfill_in _ _ _ _ _ (by omega) (by omega), kXl 94 (by decide), Nat.sub_zero]
        exact (hM j hj).2⟩)
  have hE6 : EV nb nv vb E hi6 := hE.fr (fun x hx => by
    have hne : x ∉ 90 :: 101 :: 102 :: 113 :: 41 :: xCl := fun e => by
      simp only [List.mem_cons] at e
      rcases e with rfl | rfl | rfl | rfl | rfl | e
      · exact absurd hx (by decide)
      · exact absurd hx (by decide)
      · exact absurd hx (by decide)
      · exact absurd hx (by decide)
      · exact absurd hx (by decide)
      · simp only [xCl, xEr, List.mem_cons, List.not_mem_nil, or_false] at e hx
        omega
    rw [q2 x (nD hne (by decide)), g5 x (nD hne (by decide)) (lo x (by simp only [List.mem_cons]; exact Or.inr (Or.inr (Or.inr (Or.inr (Or.inr hx)))))).1 (lo x (by simp only [List.mem_cons]; exact Or.inr (Or.inr (Or.inr (Or.inr (Or.inr hx)))))).2]) (by rw [q3 1 (by decide), g39 1 (by decide)]) (by rw [q3 6 (by decide), g39 6 (by decide)])
  have hM6 : MC nb ck cn hi6 hl6 := hM.fr (by rw [q2 93 (by decide), g5 93 (by decide) (by omega) (by omega)]) (by rw [q4 94 (by decide), g5l 94 (by decide) (by omega)])
  obtain ⟨hi7, hl7, w1, w2, w3, w4⟩ := copies_m (r := (t2, va_up r.2 nx (some r.1))) (C := (ck, cn)) (a := u) (b := v) (o := o) hE6 hM6 hO hu hv (by omega)
  have ls := lesser_m (hl := hl6) (r := (t2, va_up r.2 nx (some r.1))) hE6.2 hu hv
  refine ⟨nI (cpy E (ck, cn) u v o).1, (hi3, hl2, (t2, va_up r.2 nx (some r.1))), (hi7, hl7, (t2, va_up r.2 nx (some r.1))), ?_, ?_, ?_⟩
  · rw [cls, kk, xbV_some]
  · show F_X12_copies (nI u) (nI v) (nI o) hi3 hl2 (t2, va_up r.2 nx (some r.1)) = _
    unfold F_X12_copies
    rw [mview_i z6 n1 hu, xbI_some, if_neg (by decide), mview_i z6 n1 hv, xbI_some, if_neg (by decide), ii eo ho3 p2', xbP_some, if_neg (by decide), cp, xbV_some, q1, xbV_some, ls, xbI_some]
    exact w1
  · refine xInv_deed (ck' := (cpy E (ck, cn) u v o).2.1) (cn' := (cpy E (ck, cn) u v o).2.2) h1 h2 h3 h5 h6 h8 h9 (fun x hx => ?_) (fun j hj => ?_) (fun x hx => ?_) ?_ ?_ w2 hO' (q5.tr (hi' := hi7) (hl' := hl7) (fun x z1 z2 => w3.1 x (by simp; omega)) (fun x hx => w3.1 x (by
        simp only [List.mem_cons, List.not_mem_nil, or_false] at hx ⊢
        omega)) (w3.2 15 (by decide)) (fun x z1 z2 => w4.1 x (by simp; omega)) (w4.1 103 (by decide))) (h7.tr ?_)
    · show hi7 x = _
      rw [w3.1 x (nD hx (by decide)), q2 x (nD hx (by decide)), g5 x (nD hx (by decide)) (nDr hx ho).1 (nDr hx ho).2]
    · show hi7 90 j = _
      simp only [List.mem_cons, List.not_mem_nil, or_false] at hj
      rw [w3.2 j (by simp; omega), q3 j (by omega), g39 j (by omega)]
    · show hl7 x = _
      rw [w4.1 x (nD hx (by decide)), q4 x (nDe hx (by decide)), g5l x (nD hx (by decide)) (nDrL hx ho)]
    · show hl7 90 14 = _
      rw [w4.2 14 (by decide), q4 90 (by decide), g4 90 (by decide), kXl 90 (by decide)]
    · exact k2.fr (by show hi7 3 = _; rw [w3.1 3 (by decide), q2 3 (by decide), g3 3 (by decide), f3 3 (by decide)]) (by show hl7 4 = _; rw [w4.1 4 (by decide), q4 4 (by decide), g4 4 (by decide)])
    · intro x hx
      show hi7 x = _
      simp only [List.mem_cons, List.not_mem_nil, or_false] at hx
      rw [w3.1 x (by simp; omega), q2 x (by simp; omega), g5 x (by simp [xCl]; omega) (by omega) (by omega)]
