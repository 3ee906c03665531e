section RUNM
variable {r : xRr} {nb nv ln : Nat} {vb : Nat → Nat} {E : yE} {lp md : Nat → Nat}
/-- what a run of the reference changes -/
def mR (hi hi' : Nat → Nat → Int32) : Prop := (∀ a, a ∉ [90, 93, 109, 117, 118] → hi' a = hi a) ∧ ∀ j, j ∉ [31, 33, 38, 39] → hi' 90 j = hi 90 j
theorem mR.trans {h1 h2 h3 : Nat → Nat → Int32} (a : mR h1 h2) (b : mR h2 h3) : mR h1 h3 := ⟨fun x p => (b.1 x p).trans (a.1 x p), fun j p => (b.2 j p).trans (a.2 j p)⟩
theorem mI.R {h1 h2 : Nat → Nat → Int32} (a : mI h1 h2) : mR h1 h2 := ⟨fun x p => a.1 x (nD p (by decide)), fun j p => a.2 j (nD p (by decide))⟩
theorem mW.R {h1 h2 : Nat → Nat → Int32} (a : mW h1 h2) : mR h1 h2 := ⟨fun x p => a.1 x (nD p (by decide)), fun j p => a.2 j (nD p (by decide))⟩
theorem mR.m {hi : Nat → Nat → Int32} (j : Nat) (v : Int32) : mR hi (xu hi 109 j v) := ⟨fun x p => xu_ne _ _ _ (nDe p (by decide)), fun _ _ => xu_ne2 _ _ (Or.inl (by decide))⟩
theorem EV.w {hi hi' : Nat → Nat → Int32} (h : EV nb nv vb E hi) (a : mR hi hi') : EV nb nv vb E hi' :=
  h.fr (fun x hx => a.1 x (fun e => by
    simp only [List.mem_cons, List.not_mem_nil, or_false] at e
    rcases e with rfl | rfl | rfl | rfl | rfl
    · exact absurd hx (by decide)
    · exact absurd hx (by decide)
    · exact absurd hx (by decide)
    · exact absurd hx (by decide)
    · exact absurd hx (by decide))) (a.2 1 (by decide)) (a.2 6 (by decide))
theorem WM.i {w : yW} {hi hi' : Nat → Nat → Int32} (h : WM w hi) (a : mI hi hi') : WM w hi' := by
  unfold WM at h ⊢
  rw [a.2 38 (by decide), a.2 39 (by decide), a.1 117 (by decide), a.1 118 (by decide)]
  exact h
theorem goesNow_m {hi : Nat → Nat → Int32} {hl : Nat → Nat → Int64} (ah : Int32) (hL : ILm nv ln lp hi) (hln : ln ≤ 16) {w : yW} (hC : WM w hi) (hd : w.2.1 ≤ 3) (hw : w.1 < ln) (v4 : lp (5 * w.1 + 2) ≤ 13) (v5 : lp (5 * w.1 + 4) ≤ 13) : F_X12_goesNow ah hi hl r = xbI (F_X12_goes (nI (lp (5 * w.1))) (nI (lp (5 * w.1 + 1))) (nI (plv w (lp (5 * w.1 + 2)))) (nI (lp (5 * w.1 + 3))) (nI (plv w (lp (5 * w.1 + 4)))) ah hi hl r) (fun w11 hi11 hl11 r11 => some (w11, hi11, hl11, r11)) := by
  unfold F_X12_goesNow
  rw [hC.1, nI_5mul, show nI (5 * w.1) + 1 = nI (5 * w.1 + 1) from nI_add _ 1, show nI (5 * w.1) + 2 = nI (5 * w.1 + 2) from nI_add _ 2, show nI (5 * w.1) + 3 = nI (5 * w.1 + 3) from nI_add _ 3, show nI (5 * w.1) + 4 = nI (5 * w.1 + 4) from nI_add _ 4, if_pos (xok_t (by omega) (by decide)), if_pos (xok_t (by omega) (by decide)), if_pos (xok_t (by omega) (by decide)), cl_nI (by omega), cl_nI (by omega), cl_nI (by omega), cl_nI (by omega), cl_nI (by omega), hL.2.2.1 _ (by omega), hL.2.2.1 _ (by omega), hL.2.2.1 _ (by omega), placeNow_m hC hd v4, xbI_some, if_pos (xok_t (by omega) (by decide)), if_pos (xok_t (by omega) (by decide)), hL.2.2.1 _ (by omega), placeNow_m hC hd v5, xbI_some, hL.2.2.1 _ (by omega)]
theorem run_m (h0 : opn lp ln = 0) (h3 : ∀ i, i ≤ ln → opn lp i ≤ 3) (hmd : ∀ j, j < 7 → md j ≤ 2) : ∀ n k t w C mt hi hl, t + n = 61 → t ≤ 60 → n ≤ k → WI lp ln w → OKC nb (eBk E) C.1 C.2 → EV nb nv vb E hi → MC nb C.1 C.2 hi hl → ILm nv ln lp hi → WM w hi → (∀ j, j < 7 → hi 108 j = nI (md j) ∧ hi 109 j = nI (mt j)) → ∃ hi' hl', F_X12_runsAll_2 k (nI t) hi hl r = some ((rnA E lp ln md n t w C mt).1, hi', hl', r) ∧ MC nb (rnA E lp ln md n t w C mt).2.1.1 (rnA E lp ln md n t w C mt).2.1.2 hi' hl' ∧ (∀ j, j < 7 → hi' 109 j = nI ((rnA E lp ln md n t w C mt).2.2 j)) ∧ mR hi hi' ∧ mL hl hl' := by
  intro n
  induction n with
  | zero =>
    intro k t w C mt hi hl ht h60
    omega
  | succ n ih =>
    intro k t w C mt hi hl ht h60 hk hW hO hE hC hL hWC hm
    obtain ⟨k, rfl⟩ : ∃ q, k = q + 1 := ⟨k - 1, by omega⟩
    have hB := hL.2.2.2
    have hln := hL.1
    obtain ⟨hS1, hS2⟩ := wS_sp hB h0 h3 hln hW
    obtain ⟨hi1, n1, n2, n3⟩ := nextS_m (hl := hl) (r := r) h0 h3 hW hWC hL
    unfold rnA
    generalize wS lp ln w = w1 at hS1 hS2 n1 n2
    have hE1 : EV nb nv vb E hi1 := hE.w n3.R
    have hC1 : MC nb C.1 C.2 hi1 hl := hC.fr (n3.1 93 (by decide)) rfl
    have hL1 : ILm nv ln lp hi1 := hL.mw n3
    have hm1 : ∀ j, j < 7 → hi1 108 j = nI (md j) ∧ hi1 109 j = nI (mt j) := fun j hj => by rw [n3.1 108 (by decide), n3.1 109 (by decide)]; exact hm j hj
    have e60 : (nI t = (60 : Int32)) = (t = 60) := nI_eq' (b := 60) (by omega) (by decide)
    by_cases c1 : ln ≤ w1.1
    · simp only [if_pos c1] at n1 ⊢
      refine ⟨hi1, hl, ?_, hC1, fun j hj => (hm1 j hj).2, n3.R, mL.rf⟩
      unfold F_X12_runsAll_2
      rw [n1, xbI_some, if_pos rfl]
    simp only [if_neg c1] at n1 ⊢
    by_cases c2 : t = 60
    · simp only [if_pos c2]
      refine ⟨hi1, hl, ?_, hC1, fun j hj => (hm1 j hj).2, n3.R, mL.rf⟩
      unfold F_X12_runsAll_2
      rw [n1, xbI_some, if_neg (by decide), if_pos (by rw [e60]; exact c2)]
    simp only [if_neg c2]
    have h5 : lp (5 * w1.1) < 5 := by
      rcases hS2 with q | q
      · exact absurd q c1
      · exact q
    have hle := hS1.1
    obtain ⟨v1, v2, v3, v4, v5⟩ := lst_v hB (w := w1) (by omega) h5
    have hd : w1.2.1 ≤ 3 := by have := h3 w1.1 hle; rw [hS1.2.1] at this; exact this
    have P2 := plv_le hB hS1 (lp (5 * w1.1 + 2))
    have P4 := plv_le hB hS1 (lp (5 * w1.1 + 4))
    have gn := goesNow_m (hl := hl) (r := r) 0 hL1 hln n2 hd (by omega) v4 v5
    obtain ⟨hi2, hl2, p1, p2, p3, p4⟩ := goes_m (r := r) (C := C) (w := lp (5 * w1.1)) (a := lp (5 * w1.1 + 1)) (p := plv w1 (lp (5 * w1.1 + 2))) (b := lp (5 * w1.1 + 3)) (q := plv w1 (lp (5 * w1.1 + 4))) hE1 hC1 hO v1 v2 (by omega) v3 (by omega)
    rw [p1, xbI_some] at gn
    change F_X12_goesNow 0 hi1 hl r = some ((lst E lp C w1).1, hi2, hl2, r) at gn
    change MC nb (lst E lp C w1).2.1 (lst E lp C w1).2.2 hi2 hl2 at p2
    have hO1 : OKC nb (eBk E) (lst E lp C w1).2.1 (lst E lp C w1).2.2 := stp_ok hE hO _ _ v2 v3
    have hcd : CDp (lst E lp C w1).1 := cd_stp hE hO _ _ v2 v3
    generalize lst E lp C w1 = q at gn p2 hO1 hcd
    have hW1 := hS1.st hB h0 (by omega) h5
    have hE2 : EV nb nv vb E hi2 := hE1.m p3
    have hL2 : ILm nv ln lp hi2 := hL1.w (p3.1 107 (by decide)) (p3.2 22 (by decide))
    have hWM2 : WM w1 hi2 := n2.i p3
    have hm2 : ∀ j, j < 7 → hi2 108 j = nI (md j) ∧ hi2 109 j = nI (mt j) := fun j hj => by rw [p3.1 108 (by decide), p3.1 109 (by decide)]; exact hm1 j hj
    have mr2 : mR hi hi2 := n3.R.trans p3.R
    have un : F_X12_runsAll_2 (k + 1) (nI t) hi hl r = xbP (F_X12_refusalOf q.1) (fun w8 => if q.1 = 0 then F_X12_runsAll_46 (F_X12_runsAll_2 k) (nI (t + 1)) q.1 w8 hi2 hl2 r else if xok w8 7 = true then F_X12_runsAll_46 (F_X12_runsAll_2 k) (nI (t + 1)) q.1 w8 (xu hi2 109 (Int32.toNatClampNeg w8) ((hi2 109 (Int32.toNatClampNeg w8)) + 1)) hl2 r else none) := by
      conv => lhs; unfold F_X12_runsAll_2
      rw [n1, xbI_some, if_neg (by decide), if_neg (by rw [e60]; exact c2), gn, xbI_some, show nI t + 1 = nI (t + 1) from nI_1 t]
    rw [un]
    have stepOn : ∀ hx : Nat → Nat → Int32, WM w1 hx → WM (w1.1 + 1, w1.2) (xu hx 90 38 (nI (w1.1 + 1))) := fun hx q => ⟨xu_at _ _ _ _, by rw [xu_ne2 _ _ (Or.inr (by decide))]; exact q.2.1, fun i hi9 => by rw [xu_ne2 _ _ (Or.inl (by decide)), xu_ne2 _ _ (Or.inl (by decide))]; exact q.2.2 i hi9⟩
    rcases hcd with c3 | ⟨x, hx, c3⟩
    · simp only [if_pos c3]
      obtain ⟨hi', hl', z1, z2, z3, z4, z5⟩ := ih k (t + 1) (w1.1 + 1, w1.2) q.2 mt (xu hi2 90 38 (nI (w1.1 + 1))) hl2 (by omega) (by omega) (by omega) hW1 hO1 (hE2.w (mW.a _).R) (p2.fr (xu_ne _ _ _ (by decide)) rfl) (hL2.mw (mW.a _)) (stepOn hi2 hWM2) (fun j hj => by rw [xu_ne2 _ _ (Or.inl (by decide)), xu_ne2 _ _ (Or.inl (by decide))]; exact hm2 j hj)
      refine ⟨hi', hl', ?_, z2, z3, (mr2.trans (mW.a _).R).trans z4, p4.trans z5⟩
      rw [c3, show F_X12_refusalOf 0 = some 6 from by decide, xbP_some]
      unfold F_X12_runsAll_46 F_X12_runsAll_61 F_X12_runsAll_82 F_X12_runsAll_92
      rw [if_pos rfl, if_pos rfl, hWM2.1, show nI w1.1 + 1 = nI (w1.1 + 1) from nI_1 _, z1]
    · obtain ⟨t1, t2, t3, t4⟩ := cd_t x hx
      have nz : ¬ q.1 = 0 := by rw [c3]; exact t1
      have erk : rk q.1 = x := by rw [c3]; exact rk_k hx
      have hrf : F_X12_refusalOf q.1 = some (nI x) := by rw [c3]; exact t3
      simp only [if_neg nz, erk]
      rw [hrf, xbP_some, if_pos (xok_t hx (by decide)), cl_nI (by omega), (hm2 x hx).2, show nI (mt x) + 1 = nI (mt x + 1) from nI_1 _]
      have hmx := hmd x hx
      have m0 : (nI (md x) = (0 : Int32)) = (md x = 0) := nI_eq' (b := 0) (by omega) (by decide)
      have m2' : (nI (md x) = (2 : Int32)) = (md x = 2) := nI_eq' (b := 2) (by omega) (by decide)
      generalize hG : xu hi2 109 x (nI (mt x + 1)) = hi3
      have mr3 : mR hi2 hi3 := by rw [← hG]; exact mR.m _ _
      have f3 : ∀ a, a ≠ 109 → hi3 a = hi2 a := fun a ha => by rw [← hG, xu_ne _ _ _ ha]
      have hm3 : ∀ j, j < 7 → hi3 108 j = nI (md j) ∧ hi3 109 j = nI (va_up mt x (mt x + 1) j) := fun j hj => by
        refine ⟨by rw [f3 108 (by decide)]; exact (hm2 j hj).1, ?_⟩
        by_cases e : j = x
        · subst e; rw [← hG, xu_at, up_at]
        · rw [← hG, xu_ne2 _ _ (Or.inr e), up_ne e]; exact (hm2 j hj).2
      have p2' : MC nb q.2.1 q.2.2 hi3 hl2 := p2.fr (f3 93 (by decide)) rfl
      have hL3 : ILm nv ln lp hi3 := hL2.w (f3 107 (by decide)) (by rw [f3 90 (by decide)])
      have hWM3 : WM w1 hi3 := by
        unfold WM at hWM2 ⊢
        rw [f3 90 (by decide), f3 117 (by decide), f3 118 (by decide)]
        exact hWM2
      unfold F_X12_runsAll_46 F_X12_runsAll_61 F_X12_runsAll_82 F_X12_runsAll_92
      rw [if_neg nz, if_pos (xok_t hx (by decide)), cl_nI (by omega), (hm3 x hx).1]
      simp only [m0]
      by_cases c4 : md x = 0
      · simp only [if_pos c4]
        exact ⟨hi3, hl2, rfl, p2', fun j hj => (hm3 j hj).2, mr2.trans mr3, p4⟩
      simp only [if_neg c4]
      rw [if_neg nz, if_pos (xok_t hx (by decide))]
      simp only [m2']
      by_cases c5 : md x = 2
      · simp only [if_pos c5]
        obtain ⟨hi4, l1, l2, l3⟩ := leave_m (hl := hl2) (r := r) h0 h3 hL3 hS1 hWM3
        obtain ⟨hi', hl', z1, z2, z3, z4, z5⟩ := ih k (t + 1) (wLv lp ln (w1.1 + 1, w1.2)) q.2 (va_up mt x (mt x + 1)) hi4 hl2 (by omega) (by omega) (by omega) (hW1.lv hB h0) hO1 ((hE2.w mr3).w l3.R) (p2'.fr (l3.1 93 (by decide)) rfl) (hL3.mw l3) l2 (fun j hj => by rw [l3.1 108 (by decide), l3.1 109 (by decide)]; exact hm3 j hj)
        refine ⟨hi', hl', ?_, z2, z3, ((mr2.trans mr3).trans l3.R).trans z4, p4.trans z5⟩
        rw [l1, xbV_some, z1]
      · simp only [if_neg c5]
        obtain ⟨hi', hl', z1, z2, z3, z4, z5⟩ := ih k (t + 1) (w1.1 + 1, w1.2) q.2 (va_up mt x (mt x + 1)) (xu hi3 90 38 (nI (w1.1 + 1))) hl2 (by omega) (by omega) (by omega) hW1 hO1 ((hE2.w mr3).w (mW.a _).R) (p2'.fr (xu_ne _ _ _ (by decide)) rfl) (hL3.mw (mW.a _)) (stepOn hi3 hWM3) (fun j hj => by rw [xu_ne2 _ _ (Or.inl (by decide)), xu_ne2 _ _ (Or.inl (by decide))]; exact hm3 j hj)
        refine ⟨hi', hl', ?_, z2, z3, ((mr2.trans mr3).trans (mW.a _).R).trans z4, p4.trans z5⟩
        rw [hWM3.1, show nI w1.1 + 1 = nI (w1.1 + 1) from nI_1 _, z1]
end RUNM
