theorem opn_0 {lp : Nat → Nat} : ∀ i, (∀ j, j < i → lp (5 * j) < 5) → opn lp i = 0 := by
  intro i
  induction i with
  | zero => intro _; rfl
  | succ i ih =>
    intro h
    simp only [opn]
    have := h i (by omega)
    rw [if_neg (by omega), if_neg (by omega)]
    exact ih (fun j hj => h j (by omega))
theorem op_reorders : xOpI xInv F_X11_reorders F_X12_reorders := by
  intro hi hl r h
  have h0 := h
  obtain ⟨nb, bk, bz, ck, cn, nv, vb, vf, vs, vc, vk, ch, bo, tk, tn, P, nx, G, ln, lp, md, mt, sn, st, sc, h1, h2, h3, h4, h5, h6, h7, h8, h9⟩ := h
  have n8 := h2.1
  have hln := h6.1
  have tc := turn_c (hl := hl) (r := r) h6 n8 ln 1000000 0 (by omega) (by omega)
  rw [show nI 0 = (0 : Int32) from rfl] at tc
  by_cases hpl : plnF lp ln 0
  · rw [b1_f (fun q => q hpl)] at tc
    obtain ⟨hi1, w1, f1, f2, f3, f4⟩ := find_out (r := r) h1 h2 h6 hpl ln 1000000 0 (fun _ => 0) hi (by omega) (by omega) scI.rf (fun j hj => by omega) (fun j hj => by omega)
    rw [show nI 0 = (0 : Int32) from rfl] at f1
    have wle := isW_le f4
    have wlt : ∀ i, i < ln → w1 i < 16 := fun i hi9 => by have := wle i hi9; omega
    have h6a := h6.sc f2
    obtain ⟨hi2, s1, s2, s3⟩ := sort_out (hl := hl) (r := r) hln wlt 16 1000000 0 hi1 (by omega) (by omega) h6a.2.1 f3 (fun i x hx => by simp [ordL] at hx)
    rw [show nI 0 = (0 : Int32) from rfl] at s1
    have e16 : ordL w1 ln 16 = ordL w1 ln ln := by
      have := ordL_end (w := w1) (ln := ln) (fun i hi9 => by have := wle i hi9; omega) (16 - ln)
      rw [show ln + (16 - ln) = 16 by omega] at this
      exact this
    rw [e16] at s1 s3
    have eLl : (ordL w1 ln ln).length = ln := by
      rw [ordL_len]
      exact cbl_all ln (fun i hi9 => by have := wle i hi9; omega)
    have eLm : ∀ x, x ∈ ordL w1 ln ln → x < ln := ordL_mem ln
    obtain ⟨hi3, l1, l2, l3⟩ := lieAs_c (hl := hl) (r := r) (lp := lp) hln eLl eLm ln 1000000 0 hi2 (by omega) (by omega) (by rw [s2 30 (by decide)]; exact h6a.2.1) s3 (fun k hk => by rw [s2 31 (by decide)]; exact (h6a.2.2.2.2.1 k hk).1) (fun j x hj => by omega)
    rw [show nI 0 = (0 : Int32) from rfl] at l1
    /- the reference: its rows are as they were -/
    have f3a : ∀ a, a ∉ [31, 32, 40] → hi3 a = hi1 a := fun a ha => by rw [l2 a (nD ha (by decide)), s2 a (nDe ha (by decide))]
    generalize hG : xu hi3 90 0 0 = hi4
    have f4a : ∀ a, a ∉ [31, 32, 40, 90] → hi4 a = hi1 a := fun a ha => by rw [← hG, xu_ne _ _ _ (nDe ha (by decide)), f3a a (nD ha (by decide))]
    have f4p : ∀ j, j ≠ 0 → hi4 90 j = hi1 90 j := fun j hj => by rw [← hG, xu_ne2 _ _ (Or.inr hj), f3a 90 (by decide)]
    have h1a := h1.sc f2 scL.rf
    have h2a := h2.sc f2
    have h1b : IB nb bk bz ck cn hi4 hl := h1a.tr (lx f4a (by decide)) (f4p 1 (by decide)) (fun _ _ => rfl)
    have h2b : IV nb nv vb vf vs vc vk ch bo hi4 := h2a.tr (lx f4a (by decide)) (f4p 6 (by decide))
    have h6b : ILm nv ln lp hi4 := ⟨hln, by rw [f4p 22 (by decide)]; exact h6a.2.2.1, fun k hk => by rw [f4a 107 (by decide)]; exact (h6a.2.2.2.2.1 k hk).2, h6.2.2.2.2.2.1⟩
    have pm := plain_m (hl := hl) (r := r) h6b n8 ln 1000000 0 True (by omega) (by omega)
    rw [show nI 0 = (0 : Int32) from rfl, b1_t trivial, b1_t ⟨trivial, hpl⟩] at pm
    obtain ⟨hi5, w2, g1, g2, g3, g4, g5⟩ := wavesm_out (r := r) h1b h2b h6b hpl ln 1000000 0 (fun _ => 0) hi4 (by omega) (by omega) scI.rf (fun j hj => by omega) (fun j hj => by omega)
    rw [show nI 0 = (0 : Int32) from rfl] at g1
    have eww := isW_u f4 g4
    have h6c := h6b.sc g2
    have om := old_m (hl := hl) (r := r) hln h6c.2.1
    generalize hH : xfill hi5 120 0 (5 * ln) (hi5 107) = hi6 at om
    have f6 : ∀ a, a ≠ 120 → hi6 a = hi5 a := fun a ha => by rw [← hH, xfill_ne _ _ _ _ ha]
    obtain ⟨hi7, q1, q2, q3⟩ := reo_out (hl := hl) (r := r) (w := w1) (lp := lp) hln wlt ln 1000000 0 hi6 (by omega) (by omega) (by rw [f6 90 (by decide)]; exact h6c.2.1) (fun j hj => by rw [f6 119 (by decide), g3 j hj, eww j hj]) (fun j hj => by rw [← hH, xfill_in _ _ _ _ _ (by omega) (by omega)]; exact h6c.2.2.1 j hj) (fun i x hx => by simp [ordL] at hx)
    rw [show nI 0 = (0 : Int32) from rfl] at q1
    have f7 : ∀ a, a ∉ [107, 119, 120] → hi7 a = hi4 a := fun a ha => by rw [q2 a (nDe ha (by decide)), f6 a (nDe ha (by decide)), g5 a (nDe ha (by decide))]
    refine ⟨nI (mvA 0 (ordL w1 ln ln)), (hi3, hl, r), (hi7, hl, r), ?_, ?_, ?_⟩
    · unfold F_X11_reorders F_X4_turnAnywhere F_X10_find F_X10_sortLines
      rw [tc, xbI_some, if_pos rfl, f1, xbV_some]
      have s1' : F_X10_sortLines_6 1000000 0 0 0 hi1 hl r = xbV (F_X4_lieAs 40 hi2 hl r) (fun hi3 hl3 r3 => some (nI (mvA 0 (ordL w1 ln ln)), hi3, hl3, r3)) := s1
      rw [s1']
      unfold F_X4_lieAs
      rw [l1, xbV_some, xbI_some]
    · show F_X12_reorders hi3 hl r = _
      unfold F_X12_reorders F_X12_isPlain F_X12_waves
      rw [hG, pm, xbI_some, if_neg (by decide), g1, xbV_some, om]
      exact q1
    · have hn : ∀ a, a ∉ [31, 107, 90] ++ xScr → hi7 a = hi a := by
        intro a ha
        rw [f7 a (nD ha (by decide)), f4a a (nD ha (by decide)), f2.1 a (nDe ha (by decide)) (nD ha (by decide))]
      have hp : ∀ j, j ∈ [1, 6, 13, 15, 22, 26, 29] → hi7 90 j = hi 90 j := by
        intro j hj
        rw [f7 90 (by decide), f4p j (fun e => by subst e; exact absurd hj (by decide)), f2.2 j hj]
      have hnl : ∀ a, a ∉ ([] : List Nat) → hl a = hl a := fun _ _ => rfl
      have hpl' : hl 90 14 = hl 90 14 := rfl
      have hat : ∀ i, i < ln → ∃ x, (ordL w1 ln ln)[i]? = some x ∧ x < ln := fun i hi9 => ⟨_, List.getElem?_eq_getElem (by omega), eLm _ (List.getElem_mem ..)⟩
      have z0 : opn (lq (ordL w1 ln ln) lp) ln = 0 := opn_0 ln (fun j hj => by
        obtain ⟨x, hx, hxl⟩ := hat j hj
        have := lq_at (lp := lp) hx (show 0 < 5 by decide)
        rw [Nat.add_zero, Nat.add_zero] at this
        rw [this]
        exact (hpl x (by omega) hxl).1)
      refine ⟨nb, bk, bz, ck, cn, nv, vb, vf, vs, vc, vk, ch, bo, tk, tn, P, nx, G, ln, lq (ordL w1 ln ln) lp, md, mt, sn, st, sc, h1.tr (lx hn (by decide)) (hp 1 (by decide)) (fun _ _ => rfl), h2.tr (lx hn (by decide)) (hp 6 (by decide)), h3.tr (hn 85 (by decide)) rfl (hp 13 (by decide)) rfl, h4.tr (fun a g1 g2 => hn a (fun e => by
          simp only [xScr, List.cons_append, List.nil_append, List.mem_cons, List.not_mem_nil, or_false] at e
          omega)) (lx hn (by decide)) (hp 15 (by decide)) (fun _ _ _ => rfl) rfl, h5.tr (lx hn (by decide)) (fun _ _ => rfl), ?_, h7.tr (lx hn (by decide)), h8.tr (lx hn (by decide)) (hp 26 (by decide)), h9.tr (hn 121 (by decide)) (hn 112 (by decide)) (hp 29 (by decide))⟩
      refine ⟨hln, ?_, ?_, ?_, fun k hk => ⟨?_, ?_⟩, fun i hi9 => ?_, fun i hi9 => ?_⟩
      · show hi7 30 2 = _
        rw [hn 30 (by decide)]; exact h6.2.1
      · show hi7 90 22 = _
        rw [hp 22 (by decide)]; exact h6.2.2.1
      · show hi7 30 3 = _
        rw [hn 30 (by decide), h6.2.2.2.1, z0, opn_0 ln (fun j hj => (hpl j (by omega) hj).1)]
      · show hi7 31 k = _
        rw [f7 31 (by decide), ← hG, xu_ne2 _ _ (Or.inl (by decide))]
        exact l3 k hk
      · show hi7 107 k = _
        obtain ⟨x, hx, hxl⟩ := hat (k / 5) (by omega)
        have ek : k = 5 * (k / 5) + k % 5 := by omega
        have q := q3 (k / 5) x hx (k % 5) (Nat.mod_lt _ (by decide))
        rw [← ek] at q
        rw [q, ← lq_at (lp := lp) hx (Nat.mod_lt k (by decide)), ← ek]
      · obtain ⟨x, hx, hxl⟩ := hat i hi9
        have e0 := lq_at (lp := lp) hx (show 0 < 5 by decide)
        have e1 := lq_at (lp := lp) hx (show 1 < 5 by decide)
        have e2 := lq_at (lp := lp) hx (show 2 < 5 by decide)
        have e3 := lq_at (lp := lp) hx (show 3 < 5 by decide)
        have e4 := lq_at (lp := lp) hx (show 4 < 5 by decide)
        rw [Nat.add_zero, Nat.add_zero] at e0
        obtain ⟨b1, b2, -, -⟩ := h6.2.2.2.2.2.1 x hxl
        have b5 := (hpl x (by omega) hxl).1
        rw [e0, e1, e2, e3, e4]
        exact ⟨b1, b2, fun q => by omega, fun q => by omega⟩
      · rw [opn_0 i (fun j hj => by
          obtain ⟨x, hx, hxl⟩ := hat j (by omega)
          have := lq_at (lp := lp) hx (show 0 < 5 by decide)
          rw [Nat.add_zero, Nat.add_zero] at this
          rw [this]
          exact (hpl x (by omega) hxl).1)]
        omega
  · rw [b1_t hpl] at tc
    have pm := plain_m (hl := hl) (r := r) (h6.m.sc (scI.p (hi := hi) (0 : Int32) (show 0 ∉ [1, 6, 13, 15, 22, 26, 29] by decide))) n8 ln 1000000 0 True (by omega) (by omega)
    rw [show nI 0 = (0 : Int32) from rfl, b1_t trivial, b1_f (fun q => hpl q.2)] at pm
    refine ⟨-2, (hi, hl, r), (xu hi 90 0 0, hl, r), ?_, ?_, h0.th⟩
    · unfold F_X11_reorders F_X4_turnAnywhere
      rw [tc, xbI_some, if_neg (by decide)]
    · unfold F_X12_reorders F_X12_isPlain
      simp only
      rw [pm, xbI_some, if_pos rfl]
