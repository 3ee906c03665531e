theorem op_writes (a0 a1 a2 a3 : Int32) (a4 : Int64) : xOpI xInv (F_X11_writes a0 a1 a2 a3 a4) (F_X12_writes a0 a1 a2 a3 a4) := by
  intro hi hl r h
  have h0 := h
  obtain ⟨nb, bk, bz, ck, cn, nv, vb, vf, vs, vc, vk, ch, bo, tk, tn, P, nx, G, ln, lp, md, mt, sn, st, sc, h1, h2, h3, h4, h5, h6, h7, h8, h9⟩ := h
  have n1 := h2.1
  have n2 := h2.2.1
  have y6 : (xu hi 90 0 (0 : Int32)) 90 6 = nI nv := by rw [xu_ne2 _ _ (Or.inr (by decide))]; exact h2.2.2.1
  obtain ⟨E, hE, hC, hM, hO, eE⟩ := ev_of h1 h2
  rcases (rng a0 (n := nv) (by omega)).symm with hbad | ⟨v, hv, rfl, ev⟩
  · refine ⟨-1, (hi, hl, r), (xu hi 90 0 0, hl, r), ?_, ?_, h0.th⟩
    · unfold F_X11_writes
      rw [vhas_o n2 n1 hbad, xbI_some, if_pos rfl]
    · unfold F_X12_writes
      simp only
      rw [mview_o y6 n1 hbad, xbI_some, if_pos rfl]
  rcases (rng a1 (n := 12) (by omega)).symm with hbad | ⟨p, hp, rfl, ep⟩
  · refine ⟨-1, (hi, hl, r), (xu hi 90 0 0, hl, r), ?_, ?_, h0.th⟩
    · unfold F_X11_writes
      rw [vhas_i n2 n1 hv, xbI_some, if_neg (by decide), isPl_o hbad, xbP_some, if_pos rfl]
    · unfold F_X12_writes
      simp only
      rw [mview_i y6 n1 hv, xbI_some, if_neg (by decide), io hbad p11', xbP_some, if_pos rfl]
  rcases gate a2 a3 a4 with ⟨gc, gm⟩ | ⟨k, w, rfl, rfl, hw, hkw, gw, gc, gm⟩
  · refine ⟨-1, (hi, hl, r), (xu hi 90 0 0, hl, r), ?_, ?_, h0.th⟩
    · unfold F_X11_writes
      rw [vhas_i n2 n1 hv, xbI_some, if_neg (by decide), isPl_i ep hp, xbP_some, if_neg (by decide)]
      rcases gc with g | ⟨g, g' | ⟨g', g2, g3⟩⟩
      · rw [g, xbP_some, if_pos rfl]
      · rw [g, xbP_some, if_neg (by decide), g', xbP_some, if_pos rfl]
      · rw [g, xbP_some, if_neg (by decide), g', xbP_some, if_neg (by decide), if_pos g2, if_neg g3]
    · unfold F_X12_writes
      simp only
      rw [mview_i y6 n1 hv, xbI_some, if_neg (by decide), ii ep hp p11', xbP_some, if_neg (by decide), gm, xbP_some, if_pos rfl]
  have hnb := h1.1
  have ek10 : (nI k = (10 : Int32)) = (k = 10) := nI_eq' (b := 10) (by omega) (by decide)
  have ew0 : (nI w = (0 : Int32)) = (w = 0) := nI_eq' (b := 0) (by omega) (by decide)
  have ek7 : (nI k ≤ (7 : Int32)) = (k ≤ 7) := nI_le' (b := 7) (by omega) (by decide)
  generalize en : (if k = 10 then (0 : Int64) else a4) = n'
  generalize ey : (if w = 0 then k else 8) = y
  have hy8 : y ≤ 8 := by
    rw [← ey]
    by_cases c : w = 0
    · rw [if_pos c]; omega
    · rw [if_neg c]; omega
  have hyx : y = 8 ∨ (y ≤ 7 ∧ k = y) := by
    rw [← ey]
    by_cases c : w = 0
    · rw [if_pos c]; exact Or.inr ⟨by omega, rfl⟩
    · rw [if_neg c]; exact Or.inl rfl
  have hx : okt (k, rnd k n') := by
    refine ⟨by show k ≤ 7 ∨ k = 9 ∨ k = 10; omega, fun e => ?_, rnd_idem _ _⟩
    have e' : k = 10 := e
    rw [← en, if_pos e']
    exact rnd_0 k
  /- the class: what is given lies at 86 -/
  have bc := become_c (hi := hi) (hl := hl) (r := r) (t := 86) (c := k) (v := n') (by decide) (by omega)
  generalize hG0 : xu hi 86 0 (nI k) = hi0 at bc
  generalize hG1 : xu hl 86 1 (rnd k n') = hl0 at bc
  have s0 : scI hi hi0 := by rw [← hG0]; exact scI.u _ _ (by decide)
  have s0l : scL hl hl0 := by rw [← hG1]; exact scL.u _ _ (by decide)
  have b0 : ∀ x, x ≠ 86 → hi0 x = hi x := fun x hx => by rw [← hG0, xu_ne _ _ _ hx]
  have b0l : ∀ x, x ≠ 86 → hl0 x = hl x := fun x hx => by rw [← hG1, xu_ne _ _ _ hx]
  obtain ⟨u1, u2, u3, u4, u5, u6, u7⟩ := h4
  have h4 : IU nb bk P nx hi hl r := ⟨u1, u2, u3, u4, u5, u6, u7⟩
  have ho := u6.1
  have hr := ho.rng
  obtain ⟨t2, ht2, -, -⟩ := u6.2.1 nx u2
  obtain ⟨hi1, hl1, m1, m2, m3, m4⟩ := mark_i (h1.sc s0 s0l) (h4.sc s0 s0l)
  have lo := xlo ho
  have f1 : ∀ x, x ∈ 90 :: 41 :: 3 :: 93 :: 113 :: xEr → hi1 x = hi x := fun x hx => by
    rw [m2 x (lo x hx).1 (lo x hx).2, b0 x (fun e => by subst e; exact absurd hx (by decide))]
  have hE1 : EV nb nv vb E hi1 := hE.fr (fun x hx => f1 x (by simp only [List.mem_cons]; exact Or.inr (Or.inr (Or.inr (Or.inr (Or.inr hx)))))) (by rw [f1 90 (by decide)]) (by rw [f1 90 (by decide)])
  have hC1 : CC nb ck cn hi1 hl1 := hC.fr (f1 3 (by decide)) (by rw [m3 4 (by omega), b0l 4 (by decide)])
  obtain ⟨hi2, hl2, k1, k2, k3, k4⟩ := put_c (r := r) (C := (ck, cn)) (v := v) (p := p) (t := 86) (y := y) (x := (k, rnd k n')) hE1 hC1 (by unfold isTh; decide) hv (by omega) (by show k ≤ 10; omega) hy8 (by rw [m2 86 (by omega) (by omega), ← hG0, xu_at]) (by rw [m3 86 (by omega), ← hG1, xu_at])
  have hO' := wrt_ok (C := (ck, cn)) hE hO hv (p : Int) y hx
  have eB : eBk E = bk := by rw [eE]
  rw [eB] at hO'
  have kX : ∀ x, 87 ≤ x → hi2 x = hi x := fun x hx => by rw [k3 x (by simp; omega), m2 x (by omega) (by omega), b0 x (by omega)]
  have kXl : ∀ x, 87 ≤ x → hl2 x = hl x := fun x hx => by rw [k4 x (by simp; omega), m3 x (by omega), b0l x (by omega)]
  have hE2 : EV nb nv vb E hi2 := hE1.ne k3 (by decide)
  have cls : F_X11_writes (nI v) (nI p) (nI k) (nI w) a4 hi hl r = (if (wrt E (ck, cn) v (p : Int) (k, rnd k n') y).1 = 0 then xbV (F_X1_keepMark hi2 hl2 r) (fun hi5 hl5 r5 => some ((wrt E (ck, cn) v (p : Int) (k, rnd k n') y).1, hi5, hl5, r5)) else some ((wrt E (ck, cn) v (p : Int) (k, rnd k n') y).1, hi2, hl2, r)) := by
    have z69 : F_X11_writes_69 (nI v) (nI p) (nI k) (nI w) (nI k) n' hi hl r = (if (wrt E (ck, cn) v (p : Int) (k, rnd k n') y).1 = 0 then xbV (F_X1_keepMark hi2 hl2 r) (fun hi5 hl5 r5 => some ((wrt E (ck, cn) v (p : Int) (k, rnd k n') y).1, hi5, hl5, r5)) else some ((wrt E (ck, cn) v (p : Int) (k, rnd k n') y).1, hi2, hl2, r)) := by
      unfold F_X11_writes_69 F_X11_writes_104
      rw [bc, xbV_some, m1, xbV_some]
      simp only [ew0]
      by_cases c : w = 0
      · rw [if_pos c] at ey ⊢
        have k1' := k1
        rw [show nI y = nI k by rw [ey]] at k1'
        rw [k1', xbI_some]
      · rw [if_neg c] at ey ⊢
        rw [show (8 : Int32) = nI y by rw [← ey]; rfl, k1, xbI_some]
    unfold F_X11_writes F_X11_writes_52
    rw [vhas_i n2 n1 hv, xbI_some, if_neg (by decide), isPl_i ep hp, xbP_some, if_neg (by decide), gw, xbP_some, if_neg (by decide), gc, xbP_some, if_neg (by decide), ← z69]
    simp only [ew0, ek7, ek10]
    have e52 : (if k = 10 then F_X11_writes_69 (nI v) (nI p) (nI k) (nI w) (nI k) 0 hi hl r else F_X11_writes_69 (nI v) (nI p) (nI k) (nI w) (nI k) a4 hi hl r) = F_X11_writes_69 (nI v) (nI p) (nI k) (nI w) (nI k) n' hi hl r := by
      by_cases c : k = 10
      · rw [if_pos c] at en ⊢
        rw [en]
      · rw [if_neg c] at en ⊢
        rw [en]
    rw [e52]
    by_cases c : w = 0
    · rw [if_pos c, if_pos (by omega)]
    · rw [if_neg c]
  have ref : ∀ (hiX : Nat → Nat → Int32) (rX : xRr), (∀ x, 87 ≤ x → hiX x = hi x) → EV nb nv vb E hiX → ∃ a d t, F_X12_writes (nI v) (nI p) (nI k) (nI w) a4 hiX hl2 rX = (if wrc E v (p : Int) k y = 0 then xbV (F_X12_copy 113 114 0 (xu (xu (xu hiX 90 0 0) 90 31 a) 90 33 t) (xu hl2 90 32 d) rX) (fun hi5 hl5 r5 => xbV (F_X12_know hi5 hl5 r5) (fun hi7 hl7 r7 => xbV (F_X12_put (hi7 90 33) hi7 hl7 r7) (fun hi9 hl9 r9 => some (wrc E v (p : Int) k y, hi9, hl9, r9)))) else some (wrc E v (p : Int) k y, xu (xu (xu hiX 90 0 0) 90 31 a) 90 33 t, xu hl2 90 32 d, rX)) ∧ (wrc E v (p : Int) k y = 0 → a = nI (cup (dl E v) (k, rnd k n')).1 ∧ d = (cup (dl E v) (k, rnd k n')).2 ∧ t = nI (cix E v (p : Int))) := by
    intro hiX rX hX hEX
    have z6 : (xu hiX 90 0 (0 : Int32)) 90 6 = nI nv := by rw [xu_ne2 _ _ (Or.inr (by decide)), hX 90 (by decide)]; exact h2.2.2.1
    obtain ⟨a, d, t, w1, w2⟩ := write_m (hi := xu (xu hiX 90 0 0) 90 31 (nI k)) (hl := xu hl2 90 32 (rnd k n')) (r := rX) (v := v) (p := p) (y := y) (x := (k, rnd k n')) ((hEX.u 0 _ (by decide) (Or.inr (by decide))).u 31 _ (by decide) (Or.inr (by decide))) hv (by omega) hyx (by show k ≤ 10; omega) (xu_at _ _ _ _) (xu_at _ _ _ _)
    rw [xu_xu, xu_xu] at w1
    refine ⟨a, d, t, ?_, w2⟩
    have z60 : F_X12_writes_60 (nI v) (nI p) (nI k) (nI w) (rnd k n') (xu (xu hiX 90 0 0) 90 31 (nI k)) hl2 rX = (if wrc E v (p : Int) k y = 0 then xbV (F_X12_copy 113 114 0 (xu (xu (xu hiX 90 0 0) 90 31 a) 90 33 t) (xu hl2 90 32 d) rX) (fun hi5 hl5 r5 => xbV (F_X12_know hi5 hl5 r5) (fun hi7 hl7 r7 => xbV (F_X12_put (hi7 90 33) hi7 hl7 r7) (fun hi9 hl9 r9 => some (wrc E v (p : Int) k y, hi9, hl9, r9)))) else some (wrc E v (p : Int) k y, xu (xu (xu hiX 90 0 0) 90 31 a) 90 33 t, xu hl2 90 32 d, rX)) := by
      unfold F_X12_writes_60 F_X12_writes_77
      simp only [ew0]
      by_cases c : w = 0
      · rw [if_pos c] at ey ⊢
        have w1' := w1
        rw [show nI y = nI k by rw [ey]] at w1'
        rw [w1', xbI_some]
      · rw [if_neg c] at ey ⊢
        rw [show (8 : Int32) = nI y by rw [← ey]; rfl, w1, xbI_some]
    unfold F_X12_writes
    rw [mview_i z6 n1 hv, xbI_some, if_neg (by decide), ii ep hp p11', xbP_some, if_neg (by decide), gm, xbP_some, if_neg (by decide), ← z60]
    simp only [ek10]
    by_cases c : k = 10
    · rw [if_pos c] at en ⊢
      rw [← en, rnd_0]
    · rw [if_neg c] at en ⊢
      rw [as_m k (by omega), xbP_some, en]
  by_cases c0 : wrc E v (p : Int) k y = 0
  · have eW : wrt E (ck, cn) v (p : Int) (k, rnd k n') y = (0, updC (ck, cn) (cix E v (p : Int)) (cup (dl E v) (k, rnd k n'))) := by
      unfold wrt
      exact if_pos c0
    rw [eW] at cls k2 hO'
    rw [if_pos rfl] at cls
    have kk := keepMark_c (hi := hi2) (hl := hl2) (r := r) (nx := nx) (L := P.length) (by rw [k3 41 (by decide), f1 41 (by decide)]; exact u3) (by rw [k3 41 (by decide), f1 41 (by decide)]; exact u4) u2 u1 ht2 ho
    generalize hG : xu (xu hi2 41 2 (nI ((nx + 1) % 10))) 41 3 (nI (min (P.length + 1) 10)) = hi3 at kk
    have f3 : ∀ x, x ≠ 41 → hi3 x = hi2 x := fun x hx => by rw [← hG, xu_ne _ _ _ hx, xu_ne _ _ _ hx]
    have hE3 : EV nb nv vb E hi3 := hE2.ne (X := [41]) (fun x hx => f3 x (by simpa using hx)) (by decide)
    obtain ⟨a, d, t, r1, r2⟩ := ref hi3 (t2, va_up r.2 nx (some r.1)) (fun x hx => by rw [f3 x (by omega), kX x hx]) hE3
    obtain ⟨rfl, rfl, rfl⟩ := r2 c0
    obtain ⟨ix1, ix2, -, -⟩ := wrc_ix hE hv c0
    generalize cup (dl E v) (k, rnd k n') = z at *
    generalize cix E v (p : Int) = c at *
    rw [if_pos c0, c0] at r1
    have cp := copy_m (hi := xu (xu (xu hi3 90 0 0) 90 31 (nI z.1)) 90 33 (nI c)) (hl := xu hl2 90 32 z.2) (r := (t2, va_up r.2 nx (some r.1))) (a := 113) (b := 114) (lo := 0) (N := 72) (by decide) (by decide) (by decide) (by decide) (by decide) (by decide) (by decide) (by decide)
    rw [show nI 0 = (0 : Int32) from rfl] at cp
    generalize hA : xfill (xu (xu (xu hi3 90 0 0) 90 31 (nI z.1)) 90 33 (nI c)) 113 0 72 (fun j => (xu (xu (xu hi3 90 0 0) 90 31 (nI z.1)) 90 33 (nI c)) 93 (j - 0)) = hi5 at cp
    generalize hB : xfill (xu hl2 90 32 z.2) 114 0 72 (fun j => (xu hl2 90 32 z.2) 94 (j - 0)) = hl5 at cp
    have g3 : ∀ x, x ∉ [90, 113] → hi5 x = hi3 x := by
      intro x hx
      simp only [List.mem_cons, List.not_mem_nil, or_false, not_or] at hx
      rw [← hA, xfill_ne _ _ _ _ hx.2, xu_ne _ _ _ hx.1, xu_ne _ _ _ hx.1, xu_ne _ _ _ hx.1]
    have g39 : ∀ j, j ∉ [0, 31, 33] → hi5 90 j = hi 90 j := by
      intro j hj
      simp only [List.mem_cons, List.not_mem_nil, or_false, not_or] at hj
      rw [← hA, xfill_ne _ _ _ _ (by decide), xu_ne2 _ _ (Or.inr hj.2.2), xu_ne2 _ _ (Or.inr hj.2.1), xu_ne2 _ _ (Or.inr hj.1), f3 90 (by decide), kX 90 (by decide)]
    have g33 : hi5 90 33 = nI c := by rw [← hA, xfill_ne _ _ _ _ (by decide), xu_at]
    have g31 : hi5 90 31 = nI z.1 := by rw [← hA, xfill_ne _ _ _ _ (by decide), xu_ne2 _ _ (Or.inr (by decide)), xu_at]
    have g32 : hl5 90 32 = z.2 := by rw [← hB, xfill_ne _ _ _ _ (by decide), xu_at]
    have g4 : ∀ x, x ∉ [90, 114] → hl5 x = hl2 x := by
      intro x hx
      simp only [List.mem_cons, List.not_mem_nil, or_false, not_or] at hx
      rw [← hB, xfill_ne _ _ _ _ hx.2, xu_ne _ _ _ hx.1]
    have g5 : ∀ x, x ∉ [90, 113, 41, 3, 86] → x ≠ r.1 → x ≠ r.1 + 1 → hi5 x = hi x := fun x hx z1 z2 => by rw [g3 x (nD hx (by decide)), f3 x (nDe hx (by decide)), k3 x (nD hx (by decide)), m2 x z1 z2, b0 x (nDe hx (by decide))]
    have g5l : ∀ x, x ∉ [90, 114, 4, 86] → x ≠ r.1 + 2 → hl5 x = hl x := fun x hx z1 => by rw [g4 x (nD hx (by decide)), k4 x (nD hx (by decide)), m3 x z1, b0l x (nDe hx (by decide))]
    obtain ⟨hi6, hl6, q1, q2, q3, q4, q5⟩ := know_i h4 (okcs_of h1) hnb (hi5 := hi5) (hl5 := hl5) ht2 (fun x z1 z2 z3 z4 => g5 x (by simp; omega) z3 z4) (fun x z1 z2 z3 => g5l x (by simp; omega) z3)
      (m4.tr (by rw [g3 _ (by simp; omega), f3 _ (by omega), k3 _ (by simp; omega)]) (by rw [g3 _ (by simp; omega), f3 _ (by omega), k3 _ (by simp; omega)]) (by rw [g4 _ (by simp; omega), k4 _ (by simp; omega)]))
      (by rw [g3 41 (by decide), ← hG, xu_ne2 _ _ (Or.inr (by decide)), xu_at]) (by rw [g3 41 (by decide), ← hG, xu_at])
      (fun x hx => by
        simp only [List.mem_cons, List.not_mem_nil, or_false] at hx
        exact g5 x (by simp; omega) (by omega) (by omega)) (g5l 103 (by decide) (by omega)) (g39 15 (by decide)) (by rw [g39 1 (by decide)]; exact h1.2.2.1) (fun j hj => ⟨by
          rw [← hA, xfill_in _ _ _ _ _ (by omega) (by omega), xu_ne2 _ _ (Or.inl (by decide)), xu_ne2 _ _ (Or.inl (by decide)), xu_ne2 _ _ (Or.inl (by decide)), f3 93 (by decide), kX 93 (by decide), Nat.sub_zero]
          exact (hM j hj).1, by
          rw [← hB, xfill_in _ _ _ _ _ (by omega) (by omega), xu_ne2 _ _ (Or.inl (by decide)), kXl 94 (by decide), Nat.sub_zero]
          exact (hM j hj).2⟩)
    have pm := put_m (hi := hi6) (hl := hl6) (r := (t2, va_up r.2 nx (some r.1))) (z := z) ix1 (by rw [q3 31 (by decide)]; exact g31) (by rw [q4 90 (by decide)]; exact g32)
    have hM6 : MC nb ck cn hi6 hl6 := hM.fr (by rw [q2 93 (by decide), g5 93 (by decide) (by omega) (by omega)]) (by rw [q4 94 (by decide), g5l 94 (by decide) (by omega)])
    refine ⟨0, (hi3, hl2, (t2, va_up r.2 nx (some r.1))), (xu hi6 93 c (nI z.1), xu hl6 94 c z.2, (t2, va_up r.2 nx (some r.1))), ?_, ?_, ?_⟩
    · rw [cls, kk, xbV_some]
    · show F_X12_writes (nI v) (nI p) (nI k) (nI w) a4 hi3 hl2 (t2, va_up r.2 nx (some r.1)) = _
      rw [r1, cp, xbV_some, q1, xbV_some, q3 33 (by decide), g33, pm, xbV_some]
    · refine xInv_deed (ck' := (updC (ck, cn) c z).1) (cn' := (updC (ck, cn) c z).2) h1 h2 h3 h5 h6 h8 h9 (fun x hx => ?_) (fun j hj => ?_) (fun x hx => ?_) ?_ ?_ ?_ hO' (q5.tr (hi' := xu hi6 93 c (nI z.1)) (hl' := xu hl6 94 c z.2) (fun x z1 z2 => xu_ne _ _ _ (by omega)) (fun x hx => xu_ne _ _ _ (by simp at hx; omega)) (xu_ne2 _ _ (Or.inl (by decide))) (fun x z1 z2 => xu_ne _ _ _ (by omega)) (xu_ne _ _ _ (by decide))) (h7.tr ?_)
      · show (xu hi6 93 c (nI z.1)) x = _
        rw [xu_ne _ _ _ (nDe hx (by decide)), q2 x (nD hx (by decide)), g5 x (nD hx (by decide)) (nDr hx ho).1 (nDr hx ho).2]
      · show (xu hi6 93 c (nI z.1)) 90 j = _
        rw [xu_ne2 _ _ (Or.inl (by decide)), q3 j (fun e => by subst e; exact absurd hj (by decide)), g39 j (fun e => by
          simp only [List.mem_cons, List.not_mem_nil, or_false] at e hj
          omega)]
      · show (xu hl6 94 c z.2) x = _
        rw [xu_ne _ _ _ (nDe hx (by decide)), q4 x (nDe hx (by decide)), g5l x (nD hx (by decide)) (nDrL hx ho)]
      · show (xu hl6 94 c z.2) 90 14 = _
        rw [xu_ne2 _ _ (Or.inl (by decide)), q4 90 (by decide), ← hB, xfill_ne _ _ _ _ (by decide), xu_ne2 _ _ (Or.inr (by decide)), kXl 90 (by decide)]
      · exact k2.fr (by show (xu hi6 93 c (nI z.1)) 3 = _; rw [xu_ne _ _ _ (by decide), q2 3 (by decide), g3 3 (by decide), f3 3 (by decide)]) (by show (xu hl6 94 c z.2) 4 = _; rw [xu_ne _ _ _ (by decide), q4 4 (by decide), g4 4 (by decide)])
      · exact MC.u (C := (ck, cn)) hM6 c z
      · intro x hx
        show (xu hi6 93 c (nI z.1)) x = _
        simp only [List.mem_cons, List.not_mem_nil, or_false] at hx
        rw [xu_ne _ _ _ (by omega), q2 x (by simp; omega), g5 x (by simp; omega) (by omega) (by omega)]
  · have eW : wrt E (ck, cn) v (p : Int) (k, rnd k n') y = (wrc E v (p : Int) k y, (ck, cn)) := by
      unfold wrt
      exact if_neg c0
    rw [eW] at cls k2 hO'
    rw [if_neg c0] at cls
    obtain ⟨a, d, t, r1, -⟩ := ref hi2 r kX hE2
    rw [if_neg c0] at r1
    generalize hA : xu (xu (xu hi2 90 0 0) 90 31 a) 90 33 t = hi5 at r1
    generalize hB : xu hl2 90 32 d = hl5 at r1
    have g3 : ∀ x, x ≠ 90 → hi5 x = hi2 x := fun x hx => by rw [← hA, xu_ne _ _ _ hx, xu_ne _ _ _ hx, xu_ne _ _ _ hx]
    have g39 : ∀ j, j ∉ [0, 31, 33] → hi5 90 j = hi 90 j := by
      intro j hj
      simp only [List.mem_cons, List.not_mem_nil, or_false, not_or] at hj
      rw [← hA, xu_ne2 _ _ (Or.inr hj.2.2), xu_ne2 _ _ (Or.inr hj.2.1), xu_ne2 _ _ (Or.inr hj.1), kX 90 (by decide)]
    have g4 : ∀ x, x ≠ 90 → hl5 x = hl2 x := fun x hx => by rw [← hB, xu_ne _ _ _ hx]
    have g5 : ∀ x, x ∉ [90, 3, 86] → x ≠ r.1 → x ≠ r.1 + 1 → hi5 x = hi x := fun x hx z1 z2 => by rw [g3 x (nDe hx (by decide)), k3 x (nD hx (by decide)), m2 x z1 z2, b0 x (nDe hx (by decide))]
    have g5l : ∀ x, x ∉ [90, 4, 86] → x ≠ r.1 + 2 → hl5 x = hl x := fun x hx z1 => by rw [g4 x (nDe hx (by decide)), k4 x (nD hx (by decide)), m3 x z1, b0l x (nDe hx (by decide))]
    refine ⟨wrc E v (p : Int) k y, (hi2, hl2, r), (hi5, hl5, r), cls, r1, ?_⟩
    refine xInv_deed (ck' := ck) (cn' := cn) (P' := P) (nx' := nx) h1 h2 h3 h5 h6 h8 h9 (fun x hx => ?_) (fun j hj => ?_) (fun x hx => ?_) ?_ ?_ ?_ hO' (h4.mk (fun x z1 z2 z3 z4 => g5 x (by simp; omega) z3 z4) (fun x hx => by
        simp only [List.mem_cons, List.not_mem_nil, or_false] at hx
        exact g5 x (by simp; omega) (by omega) (by omega)) (g39 15 (by decide)) (fun x z1 z2 z3 => g5l x (by simp; omega) z3) (g5l 103 (by decide) (by omega))) (h7.tr ?_)
    · show hi5 x = _
      rw [g5 x (nD hx (by decide)) (nDr hx ho).1 (nDr hx ho).2]
    · show hi5 90 j = _
      rw [g39 j (fun e => by
          simp only [List.mem_cons, List.not_mem_nil, or_false] at e hj
          omega)]
    · show hl5 x = _
      rw [g5l x (nD hx (by decide)) (nDrL hx ho)]
    · show hl5 90 14 = _
      rw [← hB, xu_ne2 _ _ (Or.inr (by decide)), kXl 90 (by decide)]
    · exact k2.fr (g3 3 (by decide)) (g4 4 (by decide))
    · exact hM.fr (by show hi5 93 = _; rw [g5 93 (by decide) (by omega) (by omega)]) (by show hl5 94 = _; rw [g5l 94 (by decide) (by omega)])
    · intro x hx
      show hi5 x = _
      simp only [List.mem_cons, List.not_mem_nil, or_false] at hx
      rw [g5 x (by simp; omega) (by omega) (by omega)]
