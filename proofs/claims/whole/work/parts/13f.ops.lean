/-! would, reads -/
theorem ev_of {nb nv : Nat} {bk bz ck : Nat → Nat} {cn : Nat → Int64} {vb : Nat → Nat} {vf vs : Nat → Int} {vc vk : Nat → Nat} {ch : Nat → List Nat} {bo : Nat → Nat} {hi : Nat → Nat → Int32} {hl : Nat → Nat → Int64} (h1 : IB nb bk bz ck cn hi hl) (h2 : IV nb nv vb vf vs vc vk ch bo hi) : ∃ E : yE, EV nb nv vb E hi ∧ CC nb ck cn hi hl ∧ MC nb ck cn hi hl ∧ OKC nb (eBk E) ck cn ∧ E = (bk, bz, vf, vs, vc, vk, ch, bo) := by
  obtain ⟨g1, g2, g3, g4⟩ := IB_iff.mp h1
  exact ⟨(bk, bz, vf, vs, vc, vk, ch, bo), ⟨g1, h2⟩, g2, g3, g4, rfl⟩
theorem p2 : (2 : Int32).toInt = ((3 : Nat) : Int) - 1 := by decide +kernel
theorem p2' : (2 : Int64).toInt = ((3 : Nat) : Int) - 1 := by decide +kernel
theorem p8 : (8 : Int32).toInt = ((9 : Nat) : Int) - 1 := by decide +kernel
theorem p8' : (8 : Int64).toInt = ((9 : Nat) : Int) - 1 := by decide +kernel
theorem p7 : (7 : Int32).toInt = ((8 : Nat) : Int) - 1 := by decide +kernel
theorem p7' : (7 : Int64).toInt = ((8 : Nat) : Int) - 1 := by decide +kernel
theorem p9 : (9 : Int32).toInt = ((10 : Nat) : Int) - 1 := by decide +kernel
theorem p9' : (9 : Int64).toInt = ((10 : Nat) : Int) - 1 := by decide +kernel
theorem p11' : (11 : Int64).toInt = ((12 : Nat) : Int) - 1 := by decide +kernel
theorem op_would (a0 a1 a2 : Int32) : xOpI xInv (F_X11_would a0 a1 a2) (F_X12_would a0 a1 a2) := by
  intro hi hl r h
  have h0 := h
  obtain ⟨nb, bk, bz, ck, cn, nv, vb, vf, vs, vc, vk, ch, bo, tk, tn, P, nx, G, ln, lp, md, mt, sn, st, sc, h1, h2, h3, h4, h5, h6, h7, h8, h9⟩ := h
  have n1 := h2.1
  have n2 := h2.2.1
  have y6 : (xu hi 90 0 (0 : Int32)) 90 6 = nI nv := by rw [xu_ne2 _ _ (Or.inr (by decide))]; exact h2.2.2.1
  obtain ⟨E, hE, -, -, -, -⟩ := ev_of h1 h2
  rcases (rng a0 (n := nv) (by omega)).symm with hbad | ⟨v, hv, rfl, ev⟩
  · refine ⟨-1, (hi, hl, r), (xu hi 90 0 0, hl, r), ?_, ?_, h0.th⟩
    · unfold F_X11_would
      rw [vhas_o n2 n1 hbad, xbI_some, if_pos rfl]
    · unfold F_X12_would
      simp only
      rw [mview_o y6 n1 hbad, xbI_some, if_pos rfl]
  rcases (rng a1 (n := 3) (by omega)).symm with hbad | ⟨w, hw, rfl, ew⟩
  · refine ⟨-1, (hi, hl, r), (xu hi 90 0 0, hl, r), ?_, ?_, h0.th⟩
    · unfold F_X11_would
      rw [vhas_i n2 n1 hv, xbI_some, if_neg (by decide), wo hbad p2, xbP_some, if_pos rfl]
    · unfold F_X12_would
      simp only
      rw [mview_i y6 n1 hv, xbI_some, if_neg (by decide), io hbad p2', xbP_some, if_pos rfl]
  have q11 : F_X11_would (nI v) (nI w) a2 hi hl r = (if nI w = 0 then F_X11_would_43 (nI v) (nI w) a2 a2 0 8 hi hl r else if nI w = 1 then F_X11_would_43 (nI v) (nI w) a2 a2 0 7 hi hl r else F_X11_would_43 (nI v) (nI w) a2 a2 0 9 hi hl r) := by
    unfold F_X11_would
    rw [vhas_i n2 n1 hv, xbI_some, if_neg (by decide), wi ew hw p2, xbP_some, if_neg (by decide)]
  have q12 : F_X12_would (nI v) (nI w) a2 hi hl r = (if nI w = 0 then F_X12_would_52 (nI v) (nI w) a2 a2.toInt64 0 8 (xu hi 90 0 0) hl r else if nI w = 1 then F_X12_would_52 (nI v) (nI w) a2 a2.toInt64 0 7 (xu hi 90 0 0) hl r else F_X12_would_52 (nI v) (nI w) a2 a2.toInt64 0 9 (xu hi 90 0 0) hl r) := by
    unfold F_X12_would
    rw [mview_i y6 n1 hv, xbI_some, if_neg (by decide), ii ew hw p2', xbP_some, if_neg (by decide)]
  have hw012 : w = 0 ∨ w = 1 ∨ w = 2 := by omega
  have s12 : (nI 1 = (0 : Int32)) = False := by decide +kernel
  have s20 : (nI 2 = (0 : Int32)) = False := by decide +kernel
  have s21 : (nI 2 = (1 : Int32)) = False := by decide +kernel
  have s11 : (nI 1 = (1 : Int32)) = True := by decide +kernel
  have s00 : (nI 0 = (0 : Int32)) = True := by decide +kernel
  /- what the reference takes into its hand -/
  have hand : ∀ k z, k < 10 → F_X12_in (nI k).toInt64 0 z = some 1 → ∃ th, (th = if k < 8 then k else if k = 8 then 10 else 9) ∧ F_X12_would_52 (nI v) (nI w) (nI k) (nI k).toInt64 0 z (xu hi 90 0 0) hl r = F_X12_would_89 (nI v) (nI w) (nI k) (nI th) (xu hi 90 0 0) (xu hl 90 32 0) r := by
    intro k z hk hin
    refine ⟨_, rfl, ?_⟩
    have e1 : ((8 : Int32) ≤ nI k) = (8 ≤ k) := nI_le' (a := 8) (by decide) (by omega)
    have e2 : (nI k = (8 : Int32)) = (k = 8) := nI_eq' (b := 8) (by omega) (by decide)
    unfold F_X12_would_52
    rw [hin, xbP_some, if_neg (by decide)]
    simp only [e1, e2]
    by_cases c1 : 8 ≤ k
    · rw [if_pos c1]
      by_cases c2 : k = 8
      · rw [if_pos c2, if_neg (by omega), if_pos c2]; rfl
      · rw [if_neg c2, if_neg (by omega), if_neg c2]; rfl
    · rw [if_neg c1, if_pos (by omega)]
  have bad : ∀ (b : Int32) (b' : Int64), F_X11_within a2 0 b = some 0 → F_X12_in a2.toInt64 0 b' = some 0 → F_X11_would_43 (nI v) (nI w) a2 a2 0 b hi hl r = some (-1, hi, hl, r) ∧ F_X12_would_52 (nI v) (nI w) a2 a2.toInt64 0 b' (xu hi 90 0 0) hl r = some (-1, xu hi 90 0 0, hl, r) := by
    intro b b' z1 z2
    unfold F_X11_would_43 F_X12_would_52
    rw [z1, z2, xbP_some, xbP_some, if_pos rfl, if_pos rfl]
    exact ⟨rfl, rfl⟩
  have scr : ∀ a d, xInv (xu (xu hi 90 0 0) 90 31 a) (xu hl 90 32 d) r := fun a d => h0.sc ((scI.p _ (by decide)).trans (scI.p _ (by decide))) (scL.p _ (by decide))
  have hE0 : ∀ a, EV nb nv vb E (xu (xu hi 90 0 0) 90 31 a) := fun a => (hE.u 0 _ (by decide) (Or.inr (by decide))).u 31 _ (by decide) (Or.inr (by decide))
  rcases hw012 with rfl | rfl | rfl
  · simp only [s00, if_true] at q11 q12
    rcases (rng a2 (n := 9) (by omega)).symm with hbad | ⟨k, hk, rfl, ek⟩
    · obtain ⟨z1, z2⟩ := bad 8 8 (wo hbad p8) (io hbad p8')
      exact ⟨-1, (hi, hl, r), (xu hi 90 0 0, hl, r), q11.trans z1, q12.trans z2, h0.th⟩
    obtain ⟨th, -, e52⟩ := hand k 8 (by omega) (ii ek hk p8')
    have kc := takenUp_c (hl := hl) (r := r) hE hv (top := k) (by omega) true
    rw [if_pos rfl] at kc
    obtain ⟨a, d, f1, -⟩ := fetch_m (hl := xu hl 90 32 0) (r := r) (hE0 (nI th)) hv (top := k) (by omega) (cAt_n v hv)
    rw [Bool.false_or, decide_eq_true rfl, xu_xu, xu_xu] at f1
    refine ⟨tku (eBk E (eBo E v)) true (tlp E v k), (hi, hl, r), (xu (xu hi 90 0 0) 90 31 a, xu hl 90 32 d, r), ?_, ?_, scr a d⟩
    · rw [q11]
      unfold F_X11_would_43
      rw [wi ek hk p8, xbP_some, if_neg (by decide), if_pos (show nI 0 = (0 : Int32) from rfl), kc, xbI_some]
    · show F_X12_would (nI v) (nI 0) (nI k) hi hl r = _
      rw [q12, e52]
      unfold F_X12_would_89
      rw [if_pos (show nI 0 = (0 : Int32) from rfl), f1, xbI_some]
  · simp only [s12, s11, if_false, if_true] at q11 q12
    rcases (rng a2 (n := 8) (by omega)).symm with hbad | ⟨k, hk, rfl, ek⟩
    · obtain ⟨z1, z2⟩ := bad 7 7 (wo hbad p7) (io hbad p7')
      exact ⟨-1, (hi, hl, r), (xu hi 90 0 0, hl, r), q11.trans z1, q12.trans z2, h0.th⟩
    obtain ⟨th, eth, e52⟩ := hand k 7 (by omega) (ii ek hk p7')
    rw [if_pos (by omega)] at eth
    subst eth
    have kc := handed_d (hl := hl) (r := r) hE hv (th := th) (y := th) (by omega) (by omega)
    obtain ⟨a, d, f1, -⟩ := sink_m (hl := xu hl 90 32 0) (r := r) (y := th) (x := (th, 0)) (hE0 (nI th)) hv (cAt_n v hv) (Or.inr ⟨by omega, rfl⟩) (by show th ≤ 10; omega) (xu_at _ _ _ _) (xu_at _ _ _ _)
    rw [Bool.false_or, decide_eq_true rfl, xu_xu, xu_xu, fnl_t] at f1
    refine ⟨hdn th th (dl E v), (hi, hl, r), (xu (xu hi 90 0 0) 90 31 a, xu hl 90 32 d, r), ?_, ?_, scr a d⟩
    · rw [q11]
      unfold F_X11_would_43
      rw [wi ek hk p7, xbP_some, if_neg (by decide), if_neg (by decide), if_pos (by decide), kc, xbI_some]
    · show F_X12_would (nI v) (nI 1) (nI th) hi hl r = _
      rw [q12, e52]
      unfold F_X12_would_89 F_X12_would_121
      rw [if_neg (by decide), if_pos (by decide), f1, xbI_some]
  · simp only [s20, s21, if_false] at q11 q12
    rcases (rng a2 (n := 10) (by omega)).symm with hbad | ⟨k, hk, rfl, ek⟩
    · obtain ⟨z1, z2⟩ := bad 9 9 (wo hbad p9) (io hbad p9')
      exact ⟨-1, (hi, hl, r), (xu hi 90 0 0, hl, r), q11.trans z1, q12.trans z2, h0.th⟩
    obtain ⟨th, eth, e52⟩ := hand k 9 (by omega) (ii ek hk p9')
    have hth : th ≤ 10 := by
      rw [eth]
      by_cases c : k < 8
      · rw [if_pos c]; omega
      · rw [if_neg c]
        by_cases c2 : k = 8
        · rw [if_pos c2]; omega
        · rw [if_neg c2]; omega
    have kc := handed_d (hl := hl) (r := r) hE hv (th := th) (y := 8) hth (by omega)
    obtain ⟨a, d, f1, -⟩ := sink_m (hl := xu hl 90 32 0) (r := r) (y := 8) (x := (th, 0)) (hE0 (nI th)) hv (cAt_n v hv) (Or.inl rfl) hth (xu_at _ _ _ _) (xu_at _ _ _ _)
    rw [Bool.false_or, decide_eq_true rfl, xu_xu, xu_xu, fnl_t] at f1
    rw [show nI 8 = (8 : Int32) from rfl] at kc f1
    refine ⟨hdn th 8 (dl E v), (hi, hl, r), (xu (xu hi 90 0 0) 90 31 a, xu hl 90 32 d, r), ?_, ?_, scr a d⟩
    · rw [q11]
      have e2 : (nI k = (8 : Int32)) = (k = 8) := nI_eq' (b := 8) (by omega) (by decide)
      unfold F_X11_would_43 F_X11_would_99
      rw [wi ek hk p9, xbP_some, if_neg (by decide), if_neg (by decide), if_neg (by decide)]
      simp only [e2]
      by_cases c2 : k = 8
      · rw [if_neg (by omega), if_pos c2] at eth
        subst eth
        rw [show nI 10 = (10 : Int32) from rfl] at kc
        rw [if_pos c2, kc, xbI_some]
      · rw [if_neg c2] at eth
        have : th = k := by
          rw [eth]
          by_cases c : k < 8
          · rw [if_pos c]
          · rw [if_neg c]; omega
        subst this
        rw [if_neg c2, kc, xbI_some]
    · show F_X12_would (nI v) (nI 2) (nI k) hi hl r = _
      rw [q12, e52]
      unfold F_X12_would_89 F_X12_would_121
      rw [if_neg (by decide), if_neg (by decide), f1, xbI_some]
theorem op_reads (a0 a1 : Int32) : xOpI xInv (F_X11_reads a0 a1) (F_X12_reads a0 a1) := by
  intro hi hl r h
  have h0 := h
  obtain ⟨nb, bk, bz, ck, cn, nv, vb, vf, vs, vc, vk, ch, bo, tk, tn, P, nx, G, ln, lp, md, mt, sn, st, sc, h1, h2, h3, h4, h5, h6, h7, h8, h9⟩ := h
  have n1 := h2.1
  have n2 := h2.2.1
  have y6 : (xu hi 90 0 (0 : Int32)) 90 6 = nI nv := by rw [xu_ne2 _ _ (Or.inr (by decide))]; exact h2.2.2.1
  obtain ⟨E, hE, hC, hM, hO, -⟩ := ev_of h1 h2
  rcases (rng a0 (n := nv) (by omega)).symm with hbad | ⟨v, hv, rfl, ev⟩
  · refine ⟨-1, (hi, hl, r), (xu hi 90 0 0, hl, r), ?_, ?_, h0.th⟩
    · unfold F_X11_reads
      rw [vhas_o n2 n1 hbad, xbI_some, if_pos rfl]
    · unfold F_X12_reads
      simp only
      rw [mview_o y6 n1 hbad, xbI_some, if_pos rfl]
  rcases (rng a1 (n := 12) (by omega)).symm with hbad | ⟨p, hp, rfl, ep⟩
  · refine ⟨-1, (hi, hl, r), (xu hi 90 0 0, hl, r), ?_, ?_, h0.th⟩
    · unfold F_X11_reads
      rw [vhas_i n2 n1 hv, xbI_some, if_neg (by decide), isPl_o hbad, xbP_some, if_pos rfl]
    · unfold F_X12_reads
      simp only
      rw [mview_i y6 n1 hv, xbI_some, if_neg (by decide), io hbad p11', xbP_some, if_pos rfl]
  by_cases c0 : rdc E v (p : Int) = 0
  · have kc := take_y (r := r) hE hC hO (t := 86) (by unfold isTh; decide) hv (by omega) c0
    obtain ⟨x, ex, hb, ec⟩ := rdc_0 hE hv c0
    have hci := (inb_ix hE hv hb).1
    rw [← ec] at hci
    have hx : okt (ck (cix E v (p : Int)), cn (cix E v (p : Int))) := by
      have := hO _ hci
      exact ⟨this.1, this.2.2.1, this.2.2.2⟩
    have hz := okt_cup hx (kl E v)
    generalize ez : cup (kl E v) (ck (cix E v (p : Int)), cn (cix E v (p : Int))) = z at kc hz
    have hz10 : z.1 ≤ 10 := by have := hz.1; omega
    generalize hA : xu (xu hi 86 0 (nI z.1)) 85 0 (nI z.1) = hiA
    generalize hAl : xu (xu hl 86 1 z.2) 85 1 z.2 = hlA
    have aI : ∀ a, a ∉ [85, 86] → hiA a = hi a := by
      intro a ha
      simp only [List.mem_cons, List.not_mem_nil, or_false, not_or] at ha
      rw [← hA, xu_ne _ _ _ ha.1, xu_ne _ _ _ ha.2]
    have aL : ∀ a, a ∉ [85, 86] → hlA a = hl a := by
      intro a ha
      simp only [List.mem_cons, List.not_mem_nil, or_false, not_or] at ha
      rw [← hAl, xu_ne _ _ _ ha.1, xu_ne _ _ _ ha.2]
    have hEA : EV nb nv vb E (xu hiA 90 0 0) := by
      refine (hE.fr (hi' := hiA) (lx aI (by decide)) ?_ ?_).u 0 _ (by decide) (Or.inr (by decide))
      · rw [aI 90 (by decide)]
      · rw [aI 90 (by decide)]
    obtain ⟨a, d, f1, f2⟩ := read_m (hl := hlA) (r := r) hEA hv (p := p) (by omega)
    obtain ⟨g1, g2⟩ := f2 c0 (ck (cix E v (p : Int)), cn (cix E v (p : Int))) (by rw [xu_ne2 _ _ (Or.inl (by decide)), aI 93 (by decide)]; exact (hM _ hci).1) (by rw [aL 94 (by decide)]; exact (hM _ hci).2)
    rw [ez] at g1 g2
    subst g1 g2
    rw [c0] at f1
    have kt := tell_m (hi := xu (xu hiA 90 0 0) 90 31 (nI z.1)) (hl := xu hlA 90 32 z.2) (r := r) (xu_at _ _ _ _) (xu_at _ _ _ _) hz10 hz.2.1
    generalize hD : xu (xu (xu hiA 90 0 0) 90 31 (nI z.1)) 90 13 (if z.1 = 10 then -20 else nI z.1) = hiD at kt
    generalize hDl : xu (xu hlA 90 32 z.2) 90 14 z.2 = hlD at kt
    refine ⟨0, (hiA, hlA, r), (hiD, hlD, r), ?_, ?_, ?_⟩
    · unfold F_X11_reads
      rw [vhas_i n2 n1 hv, xbI_some, if_neg (by decide), isPl_i ep hp, xbP_some, if_neg (by decide), kc, xbI_some, if_pos rfl, xu_at, xu_at, become_c (by decide) (by omega), xbV_some, hz.2.2, hA, hAl]
    · unfold F_X12_reads
      simp only
      rw [mview_i (by rw [xu_ne2 _ _ (Or.inr (by decide)), aI 90 (by decide)]; exact h2.2.2.1) n1 hv, xbI_some, if_neg (by decide), ii ep hp p11', xbP_some, if_neg (by decide), f1, xbI_some, if_pos rfl, kt, xbV_some]
    · have hn : ∀ a, a ∉ [85, 86, 90] → hiD a = hi a := by
        intro a ha
        simp only [List.mem_cons, List.not_mem_nil, or_false, not_or] at ha
        rw [← hD, xu_ne _ _ _ ha.2.2, xu_ne _ _ _ ha.2.2, xu_ne _ _ _ ha.2.2, aI a (by simp; omega)]
      have hnl : ∀ a, a ∉ [85, 86, 90] → hlD a = hl a := by
        intro a ha
        simp only [List.mem_cons, List.not_mem_nil, or_false, not_or] at ha
        rw [← hDl, xu_ne _ _ _ ha.2.2, xu_ne _ _ _ ha.2.2, aL a (by simp; omega)]
      have hp : ∀ j, j ∈ [1, 6, 15, 22, 26, 29] → hiD 90 j = hi 90 j := by
        intro j hj
        simp only [List.mem_cons, List.not_mem_nil, or_false] at hj
        rw [← hD, xu_ne2 _ _ (Or.inr (by omega)), xu_ne2 _ _ (Or.inr (by omega)), xu_ne2 _ _ (Or.inr (by omega)), aI 90 (by decide)]
      refine ⟨nb, bk, bz, ck, cn, nv, vb, vf, vs, vc, vk, ch, bo, z.1, z.2, P, nx, G, ln, lp, md, mt, sn, st, sc, h1.tr (lx hn (by decide)) (hp 1 (by decide)) (lx hnl (by decide)), h2.tr (lx hn (by decide)) (hp 6 (by decide)), IT.mk hz.1 ?_ ?_ ?_ ?_, h4.tr (fun a g1 g2 => hn a (by simp <;> omega)) (lx hn (by decide)) (hp 15 (by decide)) (fun a g1 g2 => hnl a (by simp <;> omega)) (hnl 103 (by decide)), h5.tr (lx hn (by decide)) (lx hnl (by decide)), h6.tr (hn 30 (by decide)) (hn 31 (by decide)) (hn 107 (by decide)) (hp 22 (by decide)), h7.tr (lx hn (by decide)), h8.tr (lx hn (by decide)) (hp 26 (by decide)), h9.tr (hn 121 (by decide)) (hn 112 (by decide)) (hp 29 (by decide))⟩
      · show hiD 85 0 = _
        rw [← hD, xu_ne2 _ _ (Or.inl (by decide)), xu_ne2 _ _ (Or.inl (by decide)), xu_ne2 _ _ (Or.inl (by decide)), ← hA, xu_at]
      · show hlD 85 1 = _
        rw [← hDl, xu_ne2 _ _ (Or.inl (by decide)), xu_ne2 _ _ (Or.inl (by decide)), ← hAl, xu_at]
      · show hiD 90 13 = _
        rw [← hD, xu_at]
      · show hlD 90 14 = _
        rw [← hDl, xu_at]
  · have kc := take_n (hl := hl) (r := r) hE 86 hv (p := p) (by omega) c0
    obtain ⟨a, d, f1, -⟩ := read_m (hl := hl) (r := r) (hE.u 0 0 (by decide) (Or.inr (by decide)) : EV nb nv vb _ (xu hi 90 0 0)) hv (p := p) (by omega)
    refine ⟨rdc E v (p : Int), (hi, hl, r), (xu (xu hi 90 0 0) 90 31 a, xu hl 90 32 d, r), ?_, ?_, h0.sc ((scI.p _ (by decide)).trans (scI.p _ (by decide))) (scL.p _ (by decide))⟩
    · unfold F_X11_reads
      rw [vhas_i n2 n1 hv, xbI_some, if_neg (by decide), isPl_i ep hp, xbP_some, if_neg (by decide), kc, xbI_some, if_neg c0]
    · unfold F_X12_reads
      simp only
      rw [mview_i y6 n1 hv, xbI_some, if_neg (by decide), ii ep hp p11', xbP_some, if_neg (by decide), f1, xbI_some, if_neg c0]
