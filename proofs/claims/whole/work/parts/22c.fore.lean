/-! the forecast -/
def lfc (E : yE) (lp : Nat → Nat) (w : yW) : Int32 := fcd E (lp (5 * w.1)) (lp (5 * w.1 + 1)) (plv w (lp (5 * w.1 + 2)) : Int) (lp (5 * w.1 + 3)) (plv w (lp (5 * w.1 + 4)) : Int)
def fct (E : yE) (lp : Nat → Nat) (ln : Nat) : Nat → yW → (Nat → Nat) → (Nat → Nat)
  | 0, _, c => c
  | n + 1, w, c => if ln ≤ (wS lp ln w).1 then c else fct E lp ln n ((wS lp ln w).1 + 1, (wS lp ln w).2) (va_up c (fno (lfc E lp (wS lp ln w))) (c (fno (lfc E lp (wS lp ln w))) + 1))
section FOREL
variable {r : xRr} {nb nv ln : Nat} {vb : Nat → Nat} {E : yE} {lp : Nat → Nat}
theorem fore_c (hB : LB nv ln lp) (h0 : opn lp ln = 0) (h3 : ∀ i, i ≤ ln → opn lp i ≤ 3) (hln : ln ≤ 16) : ∀ n k t w c hi hl, t + n = 60 → n < k → WI lp ln w → EV nb nv vb E hi → LR ln lp hi → WC w hi → (∀ j, j < 7 → hi 89 j = nI (c j)) → ∃ hi', F_X11_foretellAll_30 k (nI t) hi hl r = some (hi', hl, r) ∧ (∀ j, j < 7 → hi' 89 j = nI (fct E lp ln n w c j)) ∧ (∀ a, a ∉ [33, 34, 35, 89] → hi' a = hi a) := by
  intro n
  induction n with
  | zero =>
    intro k t w c hi hl ht hk hW hE hL hWC hm
    obtain ⟨k, rfl⟩ : ∃ q, k = q + 1 := ⟨k - 1, by omega⟩
    refine ⟨hi, ?_, hm, fun _ _ => rfl⟩
    unfold F_X11_foretellAll_30
    rw [if_pos (by rw [show (60 : Int32) = nI 60 from rfl, nI_leI (by decide) (by omega)]; omega)]
  | succ n ih =>
    intro k t w c hi hl ht hk hW hE hL hWC hm
    obtain ⟨k, rfl⟩ : ∃ q, k = q + 1 := ⟨k - 1, by omega⟩
    obtain ⟨hS1, hS2⟩ := wS_sp hB h0 h3 hln hW
    obtain ⟨hi1, n1, n2, n3⟩ := nextS_c (hl := hl) (r := r) hB h0 h3 hln hW hWC hL
    unfold fct
    generalize wS lp ln w = w1 at hS1 hS2 n1 n2
    have hE1 : EV nb nv vb E hi1 := hE.ne n3 (by decide)
    have hL1 : LR ln lp hi1 := hL.fr n3 (by decide)
    have hm1 : ∀ j, j < 7 → hi1 89 j = nI (c j) := fun j hj => by rw [n3 89 (by decide)]; exact hm j hj
    have g60 : ¬ (60 : Int32) ≤ nI t := by rw [show (60 : Int32) = nI 60 from rfl, nI_leI (by decide) (by omega)]; omega
    by_cases c1 : ln ≤ w1.1
    · simp only [if_pos c1] at n1 n2 ⊢
      refine ⟨hi1, ?_, hm1, fun a ha => n3 a (nD ha (by decide))⟩
      unfold F_X11_foretellAll_30
      rw [if_neg g60, n1, xbI_some, if_pos rfl]
    simp only [if_neg c1] at n1 n2 ⊢
    have h5 : lp (5 * w1.1) < 5 := by
      rcases hS2 with q | q
      · exact absurd q c1
      · exact q
    have hle := hS1.1
    obtain ⟨v1, v2, v3, v4, v5⟩ := lst_v hB (w := w1) (by omega) h5
    have hd : w1.2.1 ≤ 3 := by have := h3 w1.1 hle; rw [hS1.2.1] at this; exact this
    have plv' : ∀ p, plv (w1.1 + 1, w1.2) p = plv w1 p := fun p => rfl
    have P2 := plv_le hB hS1 (lp (5 * w1.1 + 2))
    have P4 := plv_le hB hS1 (lp (5 * w1.1 + 4))
    have k0 := part_c (hl := hl) (r := r) hL1.2 hln (i := w1.1) (j := 0) (by omega) (by omega)
    have k1 := part_c (hl := hl) (r := r) hL1.2 hln (i := w1.1) (j := 1) (by omega) (by omega)
    have k2 := place_w (hl := hl) (r := r) hln hL1 n2 hd (i := w1.1) (j := 2) (by omega) (by omega) v4
    have k3 := part_c (hl := hl) (r := r) hL1.2 hln (i := w1.1) (j := 3) (by omega) (by omega)
    have k4 := place_w (hl := hl) (r := r) hln hL1 n2 hd (i := w1.1) (j := 4) (by omega) (by omega) v5
    rw [show nI 0 = (0 : Int32) from rfl, Nat.add_zero] at k0
    rw [show nI 1 = (1 : Int32) from rfl] at k1
    rw [show nI 2 = (2 : Int32) from rfl, plv'] at k2
    rw [show nI 3 = (3 : Int32) from rfl] at k3
    rw [show nI 4 = (4 : Int32) from rfl, plv'] at k4
    have ft := foretell_c (hl := hl) (r := r) (w := lp (5 * w1.1)) (a := lp (5 * w1.1 + 1)) (p := plv w1 (lp (5 * w1.1 + 2))) (b := lp (5 * w1.1 + 3)) (q := plv w1 (lp (5 * w1.1 + 4))) hE1 v1 v2 (by omega) v3 (by omega)
    have f7 := (fno_cd (fcd_cd (w := lp (5 * w1.1)) hE1 (plv w1 (lp (5 * w1.1 + 2)) : Int) (plv w1 (lp (5 * w1.1 + 4)) : Int) v2 v3)).1
    change F_X5_foretell _ _ _ _ _ hi1 hl r = some (nI (fno (lfc E lp w1)), hi1, hl, r) at ft
    change fno (lfc E lp w1) < 7 at f7
    generalize fno (lfc E lp w1) = x at ft f7
    have hW1 := hS1.st hB h0 (by omega) h5
    generalize hG : xu hi1 89 x (nI (c x + 1)) = hi2
    have f2 : ∀ a, a ≠ 89 → hi2 a = hi1 a := fun a ha => by rw [← hG, xu_ne _ _ _ ha]
    obtain ⟨hi', z1, z2, z3⟩ := ih k (t + 1) (w1.1 + 1, w1.2) (va_up c x (c x + 1)) hi2 hl (by omega) (by omega) hW1 (hE1.ne (X := [89]) (fun a ha => f2 a (by simpa using ha)) (by decide)) (hL1.fr (X := [89]) (fun a ha => f2 a (by simpa using ha)) (by decide)) (by
      unfold WC at n2 ⊢
      rw [f2 33 (by decide), f2 34 (by decide), f2 35 (by decide)]
      exact n2) (fun j hj => by
      by_cases e : j = x
      · subst e; rw [← hG, xu_at, up_at]
      · rw [← hG, xu_ne2 _ _ (Or.inr e), up_ne e]; exact hm1 j hj)
    refine ⟨hi', ?_, z2, fun a ha => by rw [z3 a ha, f2 a (nDe ha (by decide)), n3 a (nD ha (by decide))]⟩
    have p6 : (6 : Int32).toInt = ((7 : Nat) : Int) - 1 := by decide +kernel
    unfold F_X11_foretellAll_30 F_X11_foretellAll_124
    rw [if_neg g60, n1, xbI_some, if_neg (nm20 (by omega)), k0, xbI_some, k1, xbI_some, k2, xbI_some, k3, xbI_some, k4, xbI_some, ft, xbI_some, wi (j := x) (by rw [nI_toInt (by omega)]) f7 p6, xbP_some, if_neg (by decide), if_pos (xok_t f7 (by decide)), cl_nI (by omega), hm1 x f7, show nI (c x) + 1 = nI (c x + 1) from nI_1 _, hG, show nI t + 1 = nI (t + 1) from nI_1 t, z1]
theorem fore_m {C : yC} (h0 : opn lp ln = 0) (h3 : ∀ i, i ≤ ln → opn lp i ≤ 3) (hO : OKC nb (eBk E) C.1 C.2) {what : Nat} (hwt : what < 7) : ∀ n k t w c hi hl, t + n = 60 → n < k → WI lp ln w → EV nb nv vb E hi → MC nb C.1 C.2 hi hl → ILm nv ln lp hi → WM w hi → ∃ hi' hl', F_X12_forecast_43 k (nI what) (nI (c what)) (nI t) hi hl r = some (nI (fct E lp ln n w c what), hi', hl', r) ∧ mR hi hi' ∧ mL hl hl' ∧ hi' 93 = hi 93 ∧ hi' 109 = hi 109 ∧ hl' 94 = hl 94 := by
  intro n
  induction n with
  | zero =>
    intro k t w c hi hl ht hk hW hE hM hL hWC
    obtain ⟨k, rfl⟩ : ∃ q, k = q + 1 := ⟨k - 1, by omega⟩
    refine ⟨hi, hl, ?_, ⟨fun _ _ => rfl, fun _ _ => rfl⟩, mL.rf, rfl, rfl, rfl⟩
    unfold F_X12_forecast_43
    rw [if_pos (by rw [show (60 : Int32) = nI 60 from rfl, nI_leI (by decide) (by omega)]; omega)]
    rfl
  | succ n ih =>
    intro k t w c hi hl ht hk hW hE hM hL hWC
    obtain ⟨k, rfl⟩ : ∃ q, k = q + 1 := ⟨k - 1, by omega⟩
    have hB := hL.2.2.2
    have hln := hL.1
    obtain ⟨hS1, hS2⟩ := wS_sp hB h0 h3 hln hW
    obtain ⟨hi1, n1, n2, n3⟩ := nextS_m (hl := hl) (r := r) h0 h3 hW hWC hL
    unfold fct
    generalize wS lp ln w = w1 at hS1 hS2 n1 n2
    have hE1 : EV nb nv vb E hi1 := hE.w n3.R
    have hM1 : MC nb C.1 C.2 hi1 hl := hM.fr (n3.1 93 (by decide)) rfl
    have hL1 : ILm nv ln lp hi1 := hL.mw n3
    have g60 : ¬ (60 : Int32) ≤ nI t := by rw [show (60 : Int32) = nI 60 from rfl, nI_leI (by decide) (by omega)]; omega
    by_cases c1 : ln ≤ w1.1
    · simp only [if_pos c1] at n1 ⊢
      refine ⟨hi1, hl, ?_, n3.R, mL.rf, n3.1 93 (by decide), n3.1 109 (by decide), rfl⟩
      unfold F_X12_forecast_43
      rw [if_neg g60, n1, xbI_some, if_pos rfl]
    simp only [if_neg c1] at n1 ⊢
    have h5 : lp (5 * w1.1) < 5 := by
      rcases hS2 with q | q
      · exact absurd q c1
      · exact q
    have hle := hS1.1
    obtain ⟨v1, v2, v3, v4, v5⟩ := lst_v hB (w := w1) (by omega) h5
    have hd : w1.2.1 ≤ 3 := by have := h3 w1.1 hle; rw [hS1.2.1] at this; exact this
    have P2 := plv_le hB hS1 (lp (5 * w1.1 + 2))
    have P4 := plv_le hB hS1 (lp (5 * w1.1 + 4))
    have gn := goesNow_m (hl := hl) (r := r) 1 hL1 hln n2 hd (by omega) v4 v5
    obtain ⟨hi2, hl2, p1, p3, p4⟩ := goes1_m (r := r) (C := C) (w := lp (5 * w1.1)) (a := lp (5 * w1.1 + 1)) (p := plv w1 (lp (5 * w1.1 + 2))) (b := lp (5 * w1.1 + 3)) (q := plv w1 (lp (5 * w1.1 + 4))) hE1 hM1 hO v1 v2 (by omega) v3 (by omega)
    rw [p1, xbI_some] at gn
    have fc := fcd_cd (w := lp (5 * w1.1)) hE1 (plv w1 (lp (5 * w1.1 + 2)) : Int) (plv w1 (lp (5 * w1.1 + 4)) : Int) v2 v3
    change F_X12_goesNow 1 hi1 hl r = some (lfc E lp w1, hi2, hl2, r) at gn
    change lfc E lp w1 = 1 ∨ CDp (lfc E lp w1) at fc
    generalize lfc E lp w1 = cd at gn fc
    obtain ⟨f7, -⟩ := fno_cd fc
    have hW1 := hS1.st hB h0 (by omega) h5
    have hE2 : EV nb nv vb E hi2 := hE1.m p3.I
    have hL2 : ILm nv ln lp hi2 := hL1.w (p3.1 107 (by decide)) (p3.2 22 (by decide))
    have hWM2 : WM w1 hi2 := n2.i p3.I
    have p93 : hi2 93 = hi1 93 := p3.1 93 (by decide)
    have p94 : hl2 94 = hl 94 := p4.1 94 (by decide)
    obtain ⟨hi', hl', z1, z2, z3, z4, z5, z6⟩ := ih k (t + 1) (w1.1 + 1, w1.2) (va_up c (fno cd) (c (fno cd) + 1)) (xu hi2 90 38 (nI (w1.1 + 1))) hl2 (by omega) (by omega) hW1 (hE2.w (mW.a _).R) (hM1.fr (by rw [xu_ne _ _ _ (by decide), p93]) p94) (hL2.mw (mW.a _)) ⟨xu_at _ _ _ _, by rw [xu_ne2 _ _ (Or.inr (by decide))]; exact hWM2.2.1, fun i hi9 => by rw [xu_ne2 _ _ (Or.inl (by decide)), xu_ne2 _ _ (Or.inl (by decide))]; exact hWM2.2.2 i hi9⟩
    refine ⟨hi', hl', ?_, ((n3.R.trans p3.I.R).trans (mW.a _).R).trans z2, (show mL hl hl2 from ⟨fun x q => p4.1 x (nDe q (by decide)), p4.2⟩).trans z3, by rw [z4, xu_ne _ _ _ (by decide), p93, n3.1 93 (by decide)], by rw [z5, xu_ne _ _ _ (by decide), p3.1 109 (by decide), n3.1 109 (by decide)], by rw [z6, p94]⟩
    have e88 : ∀ x, x = fno cd → F_X12_forecast_88 (F_X12_forecast_43 k) (nI what) (nI (c what)) (nI t) (nI x) hi2 hl2 r = F_X12_forecast_43 k (nI what) (nI (va_up c (fno cd) (c (fno cd) + 1) what)) (nI (t + 1)) (xu hi2 90 38 (nI (w1.1 + 1))) hl2 r := by
      intro x hx
      subst hx
      have ex : (nI (fno cd) = nI what) = (fno cd = what) := nI_eq' (by omega) (by omega)
      unfold F_X12_forecast_88 F_X12_forecast_102
      simp only [ex]
      rw [hWM2.1, show nI w1.1 + 1 = nI (w1.1 + 1) from nI_1 _, show nI t + 1 = nI (t + 1) from nI_1 t]
      by_cases e : fno cd = what
      · rw [if_pos e, e, up_at, show nI (c what) + 1 = nI (c what + 1) from nI_1 _]
      · rw [if_neg e, up_ne (fun q => e q.symm), show nI (c what) + 0 = nI (c what + 0) from nI_add _ 0, Nat.add_zero]
    unfold F_X12_forecast_43
    rw [if_neg g60, n1, xbI_some, if_neg (by decide), gn, xbI_some, ← z1]
    rcases fc with fc | fc | ⟨y, hy, fc⟩
    · rw [if_pos fc]
      exact e88 5 (by rw [fc]; rfl)
    · rw [if_neg (by rw [fc]; decide), if_pos fc]
      exact e88 6 (by rw [fc]; rfl)
    · rw [if_neg (by rw [fc]; exact cd1 y hy), if_neg (by rw [fc]; exact (cd_t y hy).1)]
      have hrf : F_X12_refusalOf cd = some (nI y) := by rw [fc]; exact (cd_t y hy).2.2.1
      rw [hrf, xbP_some]
      exact e88 y (by
        unfold fno
        rw [fc, if_neg (cd1 y hy), if_neg (cd_t y hy).1, rk_k hy])
theorem foreZero {hi : Nat → Nat → Int32} {hl : Nat → Nat → Int64} : F_X11_foretellAll hi hl r = F_X11_foretellAll_30 1000000 0 (xu (xu (xfill hi 89 0 7 (fun _ => 0)) 33 4 0) 33 3 0) hl r := by
  have key : ∀ d n i, i + d = 7 → d < n → F_X11_foretellAll_2 n (nI i) (xfill hi 89 0 i (fun _ => 0)) hl r = F_X11_foretellAll_30 1000000 0 (xu (xu (xfill hi 89 0 7 (fun _ => 0)) 33 4 0) 33 3 0) hl r := by
    intro d
    induction d with
    | zero =>
      intro n i hid hn
      obtain ⟨n, rfl⟩ : ∃ q, n = q + 1 := ⟨n - 1, by omega⟩
      have e : i = 7 := by omega
      subst e
      unfold F_X11_foretellAll_2 F_X9_begin
      rw [if_pos (by decide), xbV_some]
    | succ d ih =>
      intro n i hid hn
      obtain ⟨n, rfl⟩ : ∃ q, n = q + 1 := ⟨n - 1, by omega⟩
      have g : ¬ (6 : Int32) < nI i := by rw [show (6 : Int32) = nI 6 from rfl, nI_ltI (by decide) (by omega)]; omega
      have s := xfill_s hi 89 0 i (fun _ => (0 : Int32)) (w := 0) rfl
      rw [Nat.zero_add] at s
      unfold F_X11_foretellAll_2
      rw [if_neg g, if_pos (xok_t (by omega) (by decide)), cl_nI (by omega), s, show nI i + 1 = nI (i + 1) from nI_1 i]
      exact ih n (i + 1) (by omega) (by omega)
  have h1 := key 7 1000000 0 (by omega) (by omega)
  rw [xfill_0] at h1
  exact h1
end FOREL
theorem op_forecast (a0 : Int32) : xOpI xInv (F_X11_forecast a0) (F_X12_forecast a0) := by
  intro hi hl r h
  have h0' := h
  obtain ⟨nb, bk, bz, ck, cn, nv, vb, vf, vs, vc, vk, ch, bo, tk, tn, P, nx, G, ln, lp, md, mt, sn, st, sc, h1, h2, h3, h4, h5, h6, h7, h8, h9⟩ := h
  have n8 := h2.1
  have hln := h6.1
  have e3 := h6.2.2.2.1
  have o16 := opn_16 (lp := lp) ln
  have eo : (nI (opn lp ln) ≤ (0 : Int32)) = (opn lp ln ≤ 0) := nI_le' (b := 0) (by omega) (by decide)
  have p6 : (6 : Int32).toInt = ((7 : Nat) : Int) - 1 := by decide +kernel
  have p6' : (6 : Int64).toInt = ((7 : Nat) : Int) - 1 := by decide +kernel
  obtain ⟨E, hE, hC, hM, hO, eE⟩ := ev_of h1 h2
  rcases (rng a0 (n := 7) (by omega)).symm with hbad | ⟨x, hx, rfl, ex⟩
  · refine ⟨-1, (hi, hl, r), (xu hi 90 0 0, hl, r), ?_, ?_, h0'.th⟩
    · unfold F_X11_forecast
      rw [wo hbad p6, xbP_some, if_pos rfl]
    · unfold F_X12_forecast
      simp only
      rw [io hbad p6', xbP_some, if_pos rfl]
  by_cases c0 : opn lp ln ≤ 0
  rotate_left
  · refine ⟨-2, (hi, hl, r), (xu hi 90 0 0, hl, r), ?_, ?_, h0'.th⟩
    · unfold F_X11_forecast
      rw [wi ex hx p6, xbP_some, if_neg (by decide), e3, if_neg (by rw [eo]; exact c0)]
    · unfold F_X12_forecast
      simp only
      rw [ii ex hx p6', xbP_some, if_neg (by decide), open_m2 h6 (xu_ne _ _ _ (by decide)) (xu_ne2 _ _ (Or.inr (by decide))), xbI_some, if_neg (by rw [eo]; exact c0)]
  have h0 : opn lp ln = 0 := by omega
  have h3' : ∀ i, i ≤ ln → opn lp i ≤ 3 := h6.2.2.2.2.2.2
  have hB : LB nv ln lp := h6.2.2.2.2.2.1
  have hW0 : WI lp ln w0 := ⟨Nat.zero_le _, rfl, fun i hi9 => by have : i < 0 := hi9; omega⟩
  generalize hG : xu (xu (xfill hi 89 0 7 (fun _ => (0 : Int32))) 33 4 0) 33 3 0 = hi1
  have f1 : ∀ a, a ∉ [33, 89] → hi1 a = hi a := fun a ha => by rw [← hG, xu_ne _ _ _ (nDe ha (by decide)), xu_ne _ _ _ (nDe ha (by decide)), xfill_ne _ _ _ _ (nDe ha (by decide))]
  obtain ⟨hi2, z1, z2, z3⟩ := fore_c (r := r) (vb := vb) (nb := nb) (E := E) hB h0 h3' hln 60 1000000 0 w0 (fun _ => 0) hi1 hl (by omega) (by omega) hW0 (hE.ne f1 (by decide)) ⟨by rw [f1 30 (by decide)]; exact h6.2.1, fun k hk => by rw [f1 31 (by decide), f1 107 (by decide)]; exact h6.2.2.2.2.1 k hk⟩ ⟨by rw [← hG, xu_ne2 _ _ (Or.inr (by decide)), xu_at]; rfl, by rw [← hG, xu_at]; rfl, fun i hi9 => by have : i < 0 := hi9; omega⟩ (fun j hj => by rw [← hG, xu_ne2 _ _ (Or.inl (by decide)), xu_ne2 _ _ (Or.inl (by decide)), xfill_in _ _ _ _ _ (by omega) (by omega)]; rfl)
  rw [show nI 0 = (0 : Int32) from rfl] at z1
  have f2 : ∀ a, a ∉ [33, 34, 35, 89] → hi2 a = hi a := fun a ha => by rw [z3 a ha, f1 a (nD ha (by decide))]
  generalize hH : xu (xu (xu hi2 90 0 0) 90 38 0) 90 39 0 = hi3
  have f3 : ∀ a, a ∉ [33, 34, 35, 89, 90] → hi3 a = hi a := fun a ha => by rw [← hH, xu_ne _ _ _ (nDe ha (by decide)), xu_ne _ _ _ (nDe ha (by decide)), xu_ne _ _ _ (nDe ha (by decide)), f2 a (nD ha (by decide))]
  have f39 : ∀ j, j ∉ [0, 38, 39] → hi3 90 j = hi 90 j := fun j hj => by rw [← hH, xu_ne2 _ _ (Or.inr (nDe hj (by decide))), xu_ne2 _ _ (Or.inr (nDe hj (by decide))), xu_ne2 _ _ (Or.inr (nDe hj (by decide))), f2 90 (by decide)]
  have hE3 : EV nb nv vb E hi3 := hE.fr (lx f3 (by decide)) (f39 1 (by decide)) (f39 6 (by decide))
  obtain ⟨hi4, hl4, y1, y2, y3, y4, y5, y6⟩ := fore_m (r := r) (vb := vb) (nb := nb) (E := E) (C := (ck, cn)) h0 h3' hO hx 60 1000000 0 w0 (fun _ => 0) hi3 hl (by omega) (by omega) hW0 hE3 (hM.fr (f3 93 (by decide)) rfl) ⟨hln, by rw [f39 22 (by decide)]; exact h6.2.2.1, fun k hk => by rw [f3 107 (by decide)]; exact (h6.2.2.2.2.1 k hk).2, hB⟩ ⟨by rw [← hH, xu_ne2 _ _ (Or.inr (by decide)), xu_at]; rfl, by rw [← hH, xu_at]; rfl, fun i hi9 => by have : i < 0 := hi9; omega⟩
  rw [show nI 0 = (0 : Int32) from rfl] at y1
  refine ⟨nI (fct E lp ln 60 w0 (fun _ => 0) x), (hi2, hl, r), (hi4, hl4, r), ?_, ?_, ?_⟩
  · unfold F_X11_forecast
    rw [wi ex hx p6, xbP_some, if_neg (by decide), e3, if_pos (by rw [eo]; exact c0), foreZero, hG, z1, xbV_some, if_pos (xok_t hx (by decide)), cl_nI (by omega), z2 x hx]
  · show F_X12_forecast (nI x) hi2 hl r = _
    unfold F_X12_forecast
    rw [ii ex hx p6', xbP_some, if_neg (by decide), open_m2 h6 (by rw [xu_ne _ _ _ (by decide), f2 107 (by decide)]) (by rw [xu_ne2 _ _ (Or.inr (by decide)), f2 90 (by decide)]), xbI_some, if_pos (by rw [eo]; exact c0), hH]
    exact y1
  · have sc1 : scI hi hi4 := by
      refine ⟨fun a ha hb => ?_, fun j hj => ?_⟩
      · by_cases e93 : a = 93
        · subst e93; rw [y4, f3 93 (by decide)]
        · by_cases e109 : a = 109
          · subst e109; rw [y5, f3 109 (by decide)]
          · have hb' := hb
            simp only [xScr, List.mem_cons, List.not_mem_nil, or_false, not_or] at hb'
            rw [y2.1 a (by simp; omega), f3 a (by simp; omega)]
      · simp only [List.mem_cons, List.not_mem_nil, or_false] at hj
        rw [y2.2 j (by simp; omega), f39 j (by simp; omega)]
    have sc2 : scL hl hl4 := by
      refine ⟨fun a ha hb => ?_, y3.2 14 (by decide)⟩
      by_cases e94 : a = 94
      · subst e94; exact y6
      · exact y3.1 a (by simp; omega)
    exact h0'.sc sc1 sc2
