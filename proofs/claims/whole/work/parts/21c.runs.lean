section ZERO
variable {hi : Nat → Nat → Int32} {hl : Nat → Nat → Int64} {r : xRr}
theorem zero_c : F_X11_runs_15 1000000 0 hi hl r = xbV (F_X1_mark (xfill hi 88 0 7 (fun _ => 0)) hl r) (fun hi3 hl3 r3 => xbI (F_X11_runThrough hi3 hl3 r3) (fun w5 hi5 hl5 r5 => if 0 ≤ w5 then xbV (F_X1_keepMark hi5 hl5 r5) (fun hi8 hl8 r8 => some (w5, hi8, hl8, r8)) else xbV (F_X1_returnToMark hi5 hl5 r5) (fun hi10 hl10 r10 => some (w5, hi10, hl10, r10)))) := by
  have key : ∀ d n i, i + d = 7 → d < n → F_X11_runs_15 n (nI i) (xfill hi 88 0 i (fun _ => 0)) hl r = xbV (F_X1_mark (xfill hi 88 0 7 (fun _ => 0)) hl r) (fun hi3 hl3 r3 => xbI (F_X11_runThrough hi3 hl3 r3) (fun w5 hi5 hl5 r5 => if 0 ≤ w5 then xbV (F_X1_keepMark hi5 hl5 r5) (fun hi8 hl8 r8 => some (w5, hi8, hl8, r8)) else xbV (F_X1_returnToMark hi5 hl5 r5) (fun hi10 hl10 r10 => some (w5, hi10, hl10, r10)))) := by
    intro d
    induction d with
    | zero =>
      intro n i hid hn
      obtain ⟨n, rfl⟩ : ∃ q, n = q + 1 := ⟨n - 1, by omega⟩
      have e : i = 7 := by omega
      subst e
      unfold F_X11_runs_15
      rw [if_pos (by decide)]
    | succ d ih =>
      intro n i hid hn
      obtain ⟨n, rfl⟩ : ∃ q, n = q + 1 := ⟨n - 1, by omega⟩
      have g : ¬ (7 : Int32) ≤ nI i := by rw [show (7 : Int32) = nI 7 from rfl, nI_leI (by omega) (by omega)]; omega
      have s := xfill_s hi 88 0 i (fun _ => (0 : Int32)) (w := 0) rfl
      rw [Nat.zero_add] at s
      unfold F_X11_runs_15
      rw [if_neg g, if_pos (xok_t (by omega) (by decide)), cl_nI (by omega), s, show nI i + 1 = nI (i + 1) from nI_1 i]
      exact ih n (i + 1) (by omega) (by omega)
  have h1 := key 7 1000000 0 (by omega) (by omega)
  rw [xfill_0] at h1
  exact h1
theorem zero_m : F_X12_runs_17 1000000 0 hi hl r = xbV (F_X12_copy 113 114 0 (xu (xu (xfill hi 109 0 7 (fun _ => 0)) 90 38 0) 90 39 0) hl r) (fun hi3 hl3 r3 => xbI (F_X12_runsAll hi3 hl3 r3) (fun w5 hi5 hl5 r5 => if 0 ≤ w5 then xbV (F_X12_know hi5 hl5 r5) (fun hi8 hl8 r8 => some (w5, hi8, hl8, r8)) else xbV (F_X12_copyBack 113 114 0 72 hi5 hl5 r5) (fun hi10 hl10 r10 => some (w5, hi10, hl10, r10)))) := by
  have key : ∀ d n i, i + d = 7 → d < n → F_X12_runs_17 n (nI i) (xfill hi 109 0 i (fun _ => 0)) hl r = xbV (F_X12_copy 113 114 0 (xu (xu (xfill hi 109 0 7 (fun _ => 0)) 90 38 0) 90 39 0) hl r) (fun hi3 hl3 r3 => xbI (F_X12_runsAll hi3 hl3 r3) (fun w5 hi5 hl5 r5 => if 0 ≤ w5 then xbV (F_X12_know hi5 hl5 r5) (fun hi8 hl8 r8 => some (w5, hi8, hl8, r8)) else xbV (F_X12_copyBack 113 114 0 72 hi5 hl5 r5) (fun hi10 hl10 r10 => some (w5, hi10, hl10, r10)))) := by
    intro d
    induction d with
    | zero =>
      intro n i hid hn
      obtain ⟨n, rfl⟩ : ∃ q, n = q + 1 := ⟨n - 1, by omega⟩
      have e : i = 7 := by omega
      subst e
      unfold F_X12_runs_17
      rw [if_pos (by decide)]
    | succ d ih =>
      intro n i hid hn
      obtain ⟨n, rfl⟩ : ∃ q, n = q + 1 := ⟨n - 1, by omega⟩
      have g : ¬ (7 : Int32) ≤ nI i := by rw [show (7 : Int32) = nI 7 from rfl, nI_leI (by omega) (by omega)]; omega
      have s := xfill_s hi 109 0 i (fun _ => (0 : Int32)) (w := 0) rfl
      rw [Nat.zero_add] at s
      unfold F_X12_runs_17
      rw [if_neg g, if_pos (xok_t (by omega) (by decide)), cl_nI (by omega), s, show nI i + 1 = nI (i + 1) from nI_1 i]
      exact ih n (i + 1) (by omega) (by omega)
  have h1 := key 7 1000000 0 (by omega) (by omega)
  rw [xfill_0] at h1
  exact h1
end ZERO
def w0 : yW := (0, 0, fun _ => 0, fun _ => 0)
theorem op_runs : xOpI xInv F_X11_runs F_X12_runs := by
  intro hi hl r h
  have h0' := h
  obtain ⟨nb, bk, bz, ck, cn, nv, vb, vf, vs, vc, vk, ch, bo, tk, tn, P, nx, G, ln, lp, md, mt, sn, st, sc, h1, h2, h3, h4, h5, h6, h7, h8, h9⟩ := h
  have n8 := h2.1
  have hln := h6.1
  have e3 := h6.2.2.2.1
  have o16 := opn_16 (lp := lp) ln
  have eo : (nI (opn lp ln) ≤ (0 : Int32)) = (opn lp ln ≤ 0) := nI_le' (b := 0) (by omega) (by decide)
  obtain ⟨E, hE, hC, hM, hO, eE⟩ := ev_of h1 h2
  by_cases c0 : opn lp ln ≤ 0
  rotate_left
  · refine ⟨-2, (hi, hl, r), (xu hi 90 0 0, hl, r), ?_, ?_, h0'.th⟩
    · unfold F_X11_runs
      rw [e3, if_neg (by rw [eo]; exact c0)]
    · unfold F_X12_runs
      simp only
      rw [open_m2 h6 (xu_ne _ _ _ (by decide)) (xu_ne2 _ _ (Or.inr (by decide))), xbI_some, if_neg (by rw [eo]; exact c0)]
  have h0 : opn lp ln = 0 := by omega
  have h3' : ∀ i, i ≤ ln → opn lp i ≤ 3 := h6.2.2.2.2.2.2
  have hB : LB nv ln lp := h6.2.2.2.2.2.1
  have hmd : ∀ j, j < 7 → md j ≤ 2 := fun j hj => (h7 j hj).1
  have hW0 : WI lp ln w0 := ⟨Nat.zero_le _, rfl, fun i hi9 => by have : i < 0 := hi9; omega⟩
  have hnb := h1.1
  obtain ⟨u1, u2, u3, u4, u5, u6, u7⟩ := h4
  have h4 : IU nb bk P nx hi hl r := ⟨u1, u2, u3, u4, u5, u6, u7⟩
  have ho := u6.1
  have hr := ho.rng
  obtain ⟨t2, ht2, -, -⟩ := u6.2.1 nx u2
  have lo := xlo ho
  generalize hZ : xfill hi 88 0 7 (fun _ => (0 : Int32)) = hiZ
  have fZ : ∀ a, a ∉ [88] → hiZ a = hi a := fun a ha => by rw [← hZ, xfill_ne _ _ _ _ (by simpa using ha)]
  obtain ⟨hi1, hl1, m1, m2, m3, m4⟩ := mark_i (hi := hiZ) (hl := hl) (h1.tr (lx fZ (by decide)) (by rw [fZ 90 (by decide)]) (fun _ _ => rfl)) (h4.tr (fun a z1 z2 => fZ a (by simp; omega)) (lx fZ (by decide)) (by rw [fZ 90 (by decide)]) (fun _ _ _ => rfl) rfl)
  generalize hG2 : xu (xu hi1 33 4 0) 33 3 0 = hi2
  have f2 : ∀ x, x ∉ [33, 88] → x ≠ r.1 → x ≠ r.1 + 1 → hi2 x = hi x := fun x hx z1 z2 => by rw [← hG2, xu_ne _ _ _ (nDe hx (by decide)), xu_ne _ _ _ (nDe hx (by decide)), m2 x z1 z2, fZ x (nD hx (by decide))]
  have f2' : ∀ x, x ∈ 90 :: 41 :: 3 :: 93 :: 113 :: xEr → hi2 x = hi x := fun x hx => f2 x (fun e => by
    simp only [List.mem_cons, List.not_mem_nil, or_false] at e
    rcases e with rfl | rfl
    · exact absurd hx (by decide)
    · exact absurd hx (by decide)) (lo x hx).1 (lo x hx).2
  have hE2 : EV nb nv vb E hi2 := hE.fr (fun x hx => f2' x (by simp only [List.mem_cons]; exact Or.inr (Or.inr (Or.inr (Or.inr (Or.inr hx)))))) (by rw [f2' 90 (by decide)]) (by rw [f2' 90 (by decide)])
  have hC2 : CC nb ck cn hi2 hl1 := hC.fr (f2' 3 (by decide)) (m3 4 (by omega))
  have hL2 : LR ln lp hi2 := ⟨by rw [f2 30 (by decide) (by omega) (by omega)]; exact h6.2.1, fun k hk => by rw [f2 31 (by decide) (by omega) (by omega), f2 107 (by decide) (by omega) (by omega)]; exact h6.2.2.2.2.1 k hk⟩
  have hWC2 : WC w0 hi2 := ⟨by rw [← hG2, xu_ne2 _ _ (Or.inr (by decide)), xu_at]; rfl, by rw [← hG2, xu_at]; rfl, fun i hi9 => by have : i < 0 := hi9; omega⟩
  have hm2 : ∀ j, j < 7 → hi2 87 j = nI (md j) ∧ hi2 88 j = nI ((fun _ => 0 : Nat → Nat) j) := fun j hj => by
    refine ⟨by rw [f2 87 (by decide) (by omega) (by omega)]; exact (h7 j hj).2.2.1, ?_⟩
    rw [← hG2, xu_ne2 _ _ (Or.inl (by decide)), xu_ne2 _ _ (Or.inl (by decide)), m2 88 (by omega) (by omega), ← hZ, xfill_in _ _ _ _ _ (by omega) (by omega)]
    rfl
  obtain ⟨hi3, hl3, k1, k2, k3, k4, k5⟩ := run_c (r := r) (vb := vb) (nb := nb) (E := E) (md := md) hB h0 h3' hln hmd 61 1000000 0 w0 (ck, cn) (fun _ => 0) hi2 hl1 (by omega) (by omega) (by omega) hW0 hO hE2 hC2 hL2 hWC2 hm2
  obtain ⟨hO', hmt'⟩ := rn_ok (md := md) hE hB h0 h3' hln 61 0 w0 (ck, cn) (fun _ => 0) (by omega) (by omega) hW0 hO (fun j hj => Nat.le_refl _)
  rw [show nI 0 = (0 : Int32) from rfl] at k1
  generalize eR : rnA E lp ln md 61 0 w0 (ck, cn) (fun _ => 0) = R at k1 k2 k3 hO' hmt'
  have eB : eBk E = bk := by rw [eE]
  rw [eB] at hO'
  have kX : ∀ x, 89 ≤ x → hi3 x = hi x := fun x hx => by rw [k4 x (by simp; omega), f2 x (by simp; omega) (by omega) (by omega)]
  have kXl : ∀ x, 89 ≤ x → hl3 x = hl x := fun x hx => by rw [k5 x (by simp; omega), m3 x (by omega)]
  have hE3 : EV nb nv vb E hi3 := hE2.ne k4 (by decide)
  have im3 : imgAt r.1 (nb, ck, cn) hi3 hl3 := m4.tr (by rw [k4 _ (by simp; omega), ← hG2, xu_ne _ _ _ (by omega), xu_ne _ _ _ (by omega)]) (by rw [k4 _ (by simp; omega), ← hG2, xu_ne _ _ _ (by omega), xu_ne _ _ _ (by omega)]) (by rw [k5 _ (by simp; omega)])
  have cls : F_X11_runs hi hl r = (if 0 ≤ R.1 then xbV (F_X1_keepMark hi3 hl3 r) (fun hi8 hl8 r8 => some (R.1, hi8, hl8, r8)) else xbV (F_X1_returnToMark hi3 hl3 r) (fun hi10 hl10 r10 => some (R.1, hi10, hl10, r10))) := by
    unfold F_X11_runs
    rw [e3, if_pos (by rw [eo]; exact c0), zero_c, hZ, m1, xbV_some]
    unfold F_X11_runThrough F_X9_begin
    rw [xbV_some, hG2, k1, xbI_some]
  /- the reference -/
  have ref : ∀ (hiX : Nat → Nat → Int32) (hlX : Nat → Nat → Int64) (rX : xRr), (∀ x, 89 ≤ x → hiX x = hi x) → (∀ x, 89 ≤ x → hlX x = hl x) → EV nb nv vb E hiX → ∃ hi5 hl5, F_X12_runs hiX hlX rX = (if 0 ≤ R.1 then xbV (F_X12_know hi5 hl5 rX) (fun hi8 hl8 r8 => some (R.1, hi8, hl8, r8)) else xbV (F_X12_copyBack 113 114 0 72 hi5 hl5 rX) (fun hi10 hl10 r10 => some (R.1, hi10, hl10, r10))) ∧ MC nb R.2.1.1 R.2.1.2 hi5 hl5 ∧ (∀ j, j < 7 → hi5 109 j = nI (R.2.2 j)) ∧ (∀ x, x ∉ [90, 93, 109, 113, 117, 118] → hi5 x = hiX x) ∧ (∀ j, j ∉ [0, 31, 33, 38, 39] → hi5 90 j = hi 90 j) ∧ (∀ x, x ∉ [90, 94, 114] → hl5 x = hlX x) ∧ (∀ j, j ≠ 32 → hl5 90 j = hlX 90 j) ∧ (∀ j, j < 12 * nb → hi5 113 j = nI (ck j) ∧ hl5 114 j = cn j) := by
    intro hiX hlX rX hX hXl hEX
    generalize hS : xu (xu (xfill (xu hiX 90 0 0) 109 0 7 (fun _ => (0 : Int32))) 90 38 0) 90 39 0 = hiS
    have fS : ∀ x, x ∉ [90, 109] → hiS x = hiX x := fun x hx => by rw [← hS, xu_ne _ _ _ (nDe hx (by decide)), xu_ne _ _ _ (nDe hx (by decide)), xfill_ne _ _ _ _ (nDe hx (by decide)), xu_ne _ _ _ (nDe hx (by decide))]
    have fS9 : ∀ j, j ∉ [0, 38, 39] → hiS 90 j = hi 90 j := fun j hj => by rw [← hS, xu_ne2 _ _ (Or.inr (nDe hj (by decide))), xu_ne2 _ _ (Or.inr (nDe hj (by decide))), xfill_ne _ _ _ _ (by decide), xu_ne2 _ _ (Or.inr (nDe hj (by decide))), hX 90 (by decide)]
    have cp := copy_m (hi := hiS) (hl := hlX) (r := rX) (a := 113) (b := 114) (lo := 0) (N := 72) (by decide) (by decide) (by decide) (by decide) (by decide) (by decide) (by decide) (by decide)
    rw [show nI 0 = (0 : Int32) from rfl] at cp
    generalize hA : xfill hiS 113 0 72 (fun j => hiS 93 (j - 0)) = hi4 at cp
    generalize hBb : xfill hlX 114 0 72 (fun j => hlX 94 (j - 0)) = hl4 at cp
    have fA : ∀ x, x ≠ 113 → hi4 x = hiS x := fun x hx => by rw [← hA, xfill_ne _ _ _ _ hx]
    have fB : ∀ x, x ≠ 114 → hl4 x = hlX x := fun x hx => by rw [← hBb, xfill_ne _ _ _ _ hx]
    have hE4 : EV nb nv vb E hi4 := hEX.fr (fun x hx => by
      have z1 : x ∉ [90, 109] := fun e => by
        simp only [List.mem_cons, List.not_mem_nil, or_false] at e
        rcases e with rfl | rfl
        · exact absurd hx (by decide)
        · exact absurd hx (by decide)
      rw [fA x (fun e => by subst e; exact absurd hx (by decide)), fS x z1]) (by rw [fA 90 (by decide), fS9 1 (by decide), hX 90 (by decide)]) (by rw [fA 90 (by decide), fS9 6 (by decide), hX 90 (by decide)])
    have hM4 : MC nb ck cn hi4 hl4 := hM.fr (by rw [fA 93 (by decide), fS 93 (by decide), hX 93 (by decide)]) (by rw [fB 94 (by decide), hXl 94 (by decide)])
    have hL4 : ILm nv ln lp hi4 := ⟨hln, by rw [fA 90 (by decide), fS9 22 (by decide)]; exact h6.2.2.1, fun k hk => by rw [fA 107 (by decide), fS 107 (by decide), hX 107 (by decide)]; exact (h6.2.2.2.2.1 k hk).2, hB⟩
    have hWM4 : WM w0 hi4 := ⟨by rw [fA 90 (by decide), ← hS, xu_ne2 _ _ (Or.inr (by decide)), xu_at]; rfl, by rw [fA 90 (by decide), ← hS, xu_at]; rfl, fun i hi9 => by have : i < 0 := hi9; omega⟩
    have hm4 : ∀ j, j < 7 → hi4 108 j = nI (md j) ∧ hi4 109 j = nI ((fun _ => 0 : Nat → Nat) j) := fun j hj => by
      refine ⟨by rw [fA 108 (by decide), fS 108 (by decide), hX 108 (by decide)]; exact (h7 j hj).2.2.2.1, ?_⟩
      rw [fA 109 (by decide), ← hS, xu_ne2 _ _ (Or.inl (by decide)), xu_ne2 _ _ (Or.inl (by decide)), xfill_in _ _ _ _ _ (by omega) (by omega)]
      rfl
    obtain ⟨hi5, hl5, g1, g2, g3, g4, g5⟩ := run_m (r := rX) (vb := vb) (nb := nb) (E := E) (md := md) h0 h3' hmd 61 1000000 0 w0 (ck, cn) (fun _ => 0) hi4 hl4 (by omega) (by omega) (by omega) hW0 hO hE4 hM4 hL4 hWM4 hm4
    rw [show nI 0 = (0 : Int32) from rfl] at g1
    rw [eR] at g1 g2 g3
    refine ⟨hi5, hl5, ?_, g2, g3, fun x hx => ?_, fun j hj => ?_, fun x hx => ?_, fun j hj => ?_, fun j hj => ⟨?_, ?_⟩⟩
    · unfold F_X12_runs
      rw [open_m2 h6 (by rw [xu_ne _ _ _ (by decide), hX 107 (by decide)]) (by rw [xu_ne2 _ _ (Or.inr (by decide)), hX 90 (by decide)]), xbI_some, if_pos (by rw [eo]; exact c0), zero_m, hS, cp, xbV_some]
      unfold F_X12_runsAll
      rw [g1, xbI_some]
    · rw [g4.1 x (nD hx (by decide)), fA x (nDe hx (by decide)), fS x (nD hx (by decide))]
    · rw [g4.2 j (nD hj (by decide)), fA 90 (by decide), fS9 j (nD hj (by decide))]
    · rw [g5.1 x (nD hx (by decide)), fB x (nDe hx (by decide))]
    · rw [g5.2 j hj, fB 90 (by decide)]
    · rw [g4.1 113 (by decide), ← hA, xfill_in _ _ _ _ _ (by omega) (by omega), fS 93 (by decide), hX 93 (by decide), Nat.sub_zero]
      exact (hM j hj).1
    · rw [g5.1 114 (by decide), ← hBb, xfill_in _ _ _ _ _ (by omega) (by omega), hXl 94 (by decide), Nat.sub_zero]
      exact (hM j hj).2
  by_cases cp : 0 ≤ R.1
  · rw [if_pos cp] at cls
    have kk := keepMark_c (hi := hi3) (hl := hl3) (r := r) (nx := nx) (L := P.length) (by rw [k4 41 (by decide), f2' 41 (by decide)]; exact u3) (by rw [k4 41 (by decide), f2' 41 (by decide)]; exact u4) u2 u1 ht2 ho
    generalize hG : xu (xu hi3 41 2 (nI ((nx + 1) % 10))) 41 3 (nI (min (P.length + 1) 10)) = hi4 at kk
    have f4 : ∀ x, x ≠ 41 → hi4 x = hi3 x := fun x hx => by rw [← hG, xu_ne _ _ _ hx, xu_ne _ _ _ hx]
    have hE4 : EV nb nv vb E hi4 := hE3.ne (X := [41]) (fun x hx => f4 x (by simpa using hx)) (by decide)
    obtain ⟨hi5, hl5, r1, r2, r3, r4, r5, r6, r7, r8⟩ := ref hi4 hl3 (t2, va_up r.2 nx (some r.1)) (fun x hx => by rw [f4 x (by omega), kX x hx]) kXl hE4
    rw [if_pos cp] at r1
    have g5 : ∀ x, x ∉ [90, 93, 109, 113, 117, 118, 41, 3, 15, 16, 33, 34, 35, 88] → x ≠ r.1 → x ≠ r.1 + 1 → hi5 x = hi x := fun x hx z1 z2 => by rw [r4 x (nD hx (by decide)), f4 x (nDe hx (by decide)), k4 x (nD hx (by decide)), f2 x (nD hx (by decide)) z1 z2]
    have g5l : ∀ x, x ∉ [90, 94, 114, 4, 15, 16] → x ≠ r.1 + 2 → hl5 x = hl x := fun x hx z1 => by rw [r6 x (nD hx (by decide)), k5 x (nD hx (by decide)), m3 x z1]
    obtain ⟨hi6, hl6, q1, q2, q3, q4, q5⟩ := know_i h4 (okcs_of h1) hnb (hi5 := hi5) (hl5 := hl5) ht2 (fun x z1 z2 z3 z4 => g5 x (by simp; omega) z3 z4) (fun x z1 z2 z3 => g5l x (by simp; omega) z3)
      (im3.tr (by rw [r4 _ (by simp; omega), f4 _ (by omega)]) (by rw [r4 _ (by simp; omega), f4 _ (by omega)]) (by rw [r6 _ (by simp; omega)]))
      (by rw [r4 41 (by decide), ← hG, xu_ne2 _ _ (Or.inr (by decide)), xu_at]) (by rw [r4 41 (by decide), ← hG, xu_at])
      (fun x hx => by
        simp only [List.mem_cons, List.not_mem_nil, or_false] at hx
        exact g5 x (by simp; omega) (by omega) (by omega)) (g5l 103 (by decide) (by omega)) (r5 15 (by decide)) (by rw [r5 1 (by decide)]; exact h1.2.2.1) r8
    refine ⟨R.1, (hi4, hl3, (t2, va_up r.2 nx (some r.1))), (hi6, hl6, (t2, va_up r.2 nx (some r.1))), ?_, ?_, ?_⟩
    · rw [cls, kk, xbV_some]
    · show F_X12_runs hi4 hl3 (t2, va_up r.2 nx (some r.1)) = _
      rw [r1, q1, xbV_some]
    · refine xInv_deed (ck' := R.2.1.1) (cn' := R.2.1.2) (md' := md) (mt' := R.2.2) h1 h2 h3 h5 h6 h8 h9 (fun x hx => ?_) (fun j hj => ?_) (fun x hx => ?_) ?_ ?_ ?_ hO' q5 (fun j hj => ?_)
      · show hi6 x = _
        rw [q2 x (nD hx (by decide)), g5 x (nD hx (by decide)) (nDr hx ho).1 (nDr hx ho).2]
      · show hi6 90 j = _
        simp only [List.mem_cons, List.not_mem_nil, or_false] at hj
        rw [q3 j (by omega), r5 j (by simp; omega)]
      · show hl6 x = _
        rw [q4 x (nDe hx (by decide)), g5l x (nD hx (by decide)) (nDrL hx ho)]
      · show hl6 90 14 = _
        rw [q4 90 (by decide), r7 14 (by decide), kXl 90 (by decide)]
      · exact k2.fr (by show hi6 3 = _; rw [q2 3 (by decide), r4 3 (by decide), f4 3 (by decide)]) (by show hl6 4 = _; rw [q4 4 (by decide), r6 4 (by decide)])
      · exact r2.fr (q2 93 (by decide)) (q4 94 (by decide))
      · show md j ≤ 2 ∧ R.2.2 j ≤ 60 ∧ hi6 87 j = _ ∧ hi6 108 j = _ ∧ hi6 88 j = _ ∧ hi6 109 j = _
        rw [q2 87 (by decide), q2 108 (by decide), q2 88 (by decide), q2 109 (by decide), g5 87 (by decide) (by omega) (by omega), g5 108 (by decide) (by omega) (by omega), r3 j hj, r4 88 (by decide), f4 88 (by decide), k3 j hj]
        exact ⟨hmd j hj, hmt' j hj, (h7 j hj).2.2.1, (h7 j hj).2.2.2.1, rfl, rfl⟩
  · rw [if_neg cp] at cls
    have rs := restore_c (hi := hi3) (hl := hl3) (r := r) ho.T im3.1 hnb
    generalize hG : xfill hi3 3 0 (12 * nb) (hi3 (r.1 + 1)) = hi4 at rs
    generalize hGl : xfill hl3 4 0 (12 * nb) (hl3 (r.1 + 2)) = hl4 at rs
    have f4 : ∀ x, x ≠ 3 → hi4 x = hi3 x := fun x hx => by rw [← hG, xfill_ne _ _ _ _ hx]
    have f4l : ∀ x, x ≠ 4 → hl4 x = hl3 x := fun x hx => by rw [← hGl, xfill_ne _ _ _ _ hx]
    have hC4 : CC nb ck cn hi4 hl4 := fun k hk => by
      rw [← hG, ← hGl, xfill_in _ _ _ _ _ (by omega) (by omega), xfill_in _ _ _ _ _ (by omega) (by omega)]
      exact im3.2 k hk
    have hE4 : EV nb nv vb E hi4 := hE3.ne (X := [3]) (fun x hx => f4 x (by simpa using hx)) (by decide)
    obtain ⟨hi5, hl5, r1, r2, r3, r4, r5, r6, r7, r8⟩ := ref hi4 hl4 r (fun x hx => by rw [f4 x (by omega), kX x hx]) (fun x hx => by rw [f4l x (by omega), kXl x hx]) hE4
    rw [if_neg cp] at r1
    have cb := copyBack_m (hi := hi5) (hl := hl5) (r := r) (a := 113) (b := 114) (lo := 0) (m := 72) (N := 72) (by decide) (by decide) (by decide) (by decide) (by decide) (by decide) (by decide) (by decide) (by decide)
    rw [show nI 0 = (0 : Int32) from rfl, show nI 72 = (72 : Int32) from rfl] at cb
    generalize hH : xfill hi5 93 0 72 (fun j => hi5 113 (0 + j)) = hi6 at cb
    generalize hHl : xfill hl5 94 0 72 (fun j => hl5 114 (0 + j)) = hl6 at cb
    have f6 : ∀ x, x ≠ 93 → hi6 x = hi5 x := fun x hx => by rw [← hH, xfill_ne _ _ _ _ hx]
    have f6l : ∀ x, x ≠ 94 → hl6 x = hl5 x := fun x hx => by rw [← hHl, xfill_ne _ _ _ _ hx]
    have g5 : ∀ x, x ∉ [90, 93, 109, 113, 117, 118, 3, 15, 16, 33, 34, 35, 88] → x ≠ r.1 → x ≠ r.1 + 1 → hi6 x = hi x := fun x hx z1 z2 => by rw [f6 x (nDe hx (by decide)), r4 x (nD hx (by decide)), f4 x (nDe hx (by decide)), k4 x (nD hx (by decide)), f2 x (nD hx (by decide)) z1 z2]
    have g5l : ∀ x, x ∉ [90, 94, 114, 4, 15, 16] → x ≠ r.1 + 2 → hl6 x = hl x := fun x hx z1 => by rw [f6l x (nDe hx (by decide)), r6 x (nD hx (by decide)), f4l x (nDe hx (by decide)), k5 x (nD hx (by decide)), m3 x z1]
    refine ⟨R.1, (hi4, hl4, r), (hi6, hl6, r), ?_, ?_, ?_⟩
    · rw [cls]
      unfold F_X1_returnToMark
      rw [if_pos (ho.T.o r).1, rs, xbV_some, xbV_some]
    · show F_X12_runs hi4 hl4 r = _
      rw [r1, cb, xbV_some]
    · refine xInv_deed (ck' := ck) (cn' := cn) (md' := md) (mt' := R.2.2) (P' := P) (nx' := nx) h1 h2 h3 h5 h6 h8 h9 (fun x hx => ?_) (fun j hj => ?_) (fun x hx => ?_) ?_ ?_ ?_ (by rw [← eB]; exact hO) (h4.mk (fun x z1 z2 z3 z4 => g5 x (by simp; omega) z3 z4) (fun x hx => by
        simp only [List.mem_cons, List.not_mem_nil, or_false] at hx
        exact g5 x (by simp; omega) (by omega) (by omega)) (by show hi6 90 15 = _; rw [f6 90 (by decide), r5 15 (by decide)]) (fun x z1 z2 z3 => g5l x (by simp; omega) z3) (g5l 103 (by decide) (by omega))) (fun j hj => ?_)
      · show hi6 x = _
        rw [g5 x (nD hx (by decide)) (nDr hx ho).1 (nDr hx ho).2]
      · show hi6 90 j = _
        simp only [List.mem_cons, List.not_mem_nil, or_false] at hj
        rw [f6 90 (by decide), r5 j (by simp; omega)]
      · show hl6 x = _
        rw [g5l x (nD hx (by decide)) (nDrL hx ho)]
      · show hl6 90 14 = _
        rw [f6l 90 (by decide), r7 14 (by decide), f4l 90 (by decide), kXl 90 (by decide)]
      · exact hC4.fr (by show hi6 3 = _; rw [f6 3 (by decide), r4 3 (by decide)]) (by show hl6 4 = _; rw [f6l 4 (by decide), r6 4 (by decide)])
      · intro k hk
        show hi6 93 k = _ ∧ hl6 94 k = _
        rw [← hH, ← hHl, xfill_in _ _ _ _ _ (by omega) (by omega), xfill_in _ _ _ _ _ (by omega) (by omega), Nat.zero_add]
        exact r8 k hk
      · show md j ≤ 2 ∧ R.2.2 j ≤ 60 ∧ hi6 87 j = _ ∧ hi6 108 j = _ ∧ hi6 88 j = _ ∧ hi6 109 j = _
        rw [g5 87 (by decide) (by omega) (by omega), g5 108 (by decide) (by omega) (by omega), f6 88 (by decide), f6 109 (by decide), r3 j hj, r4 88 (by decide), f4 88 (by decide), k3 j hj]
        exact ⟨hmd j hj, hmt' j hj, (h7 j hj).2.2.1, (h7 j hj).2.2.2.1, rfl, rfl⟩
