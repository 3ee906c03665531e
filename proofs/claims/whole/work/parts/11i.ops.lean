/-! view -/
def V8 (H : Nat → Nat → Int32) (nv d q : Nat) (v2 v3 v4 v5 : Int32) : Nat → Nat → Int32 := xu (xu (xu (xu (xu (xu (xu (xu H 10 (4 * nv + d) (nI nv)) 13 nv (nI q)) 9 nv (nI (d + 1))) 7 nv v2) 8 nv v3) 11 nv v4) 12 nv v5) 6 8 (nI (nv + 1))
def V12 (H : Nat → Nat → Int32) (nv d : Nat) (v1 v2 v3 v4 v5 : Int32) : Nat → Nat → Int32 := xu (xu (xu (xu (xu (xu (xu H 95 nv v1) 96 nv v2) 97 nv v3) 98 nv v4) 99 nv v5) 100 nv (nI (d + 1))) 90 6 (nI (nv + 1))
section VIEW
variable {hl : Nat → Nat → Int64} {r : xRr}
theorem addView_f {H : Nat → Nat → Int32} {d nv q m : Nat} (hd : d ≤ 3) (hnv : nv < 8) {v1 v8 : Int32} (v2 v3 v4 v5 : Int32) (h0 : d = 0 → v1 = nI q) (h1 : d ≠ 0 → ∃ u, u < 8 ∧ v8 = nI u ∧ H 13 u = nI q) :
    F_X8_addView_22 (m + 1) v1 v2 v3 v4 v5 (nI nv) (nI (d + 1)) v8 (nI d) H hl r = some (nI nv, V8 H nv d q v2 v3 v4 v5, hl, r) := by
  unfold F_X8_addView_22 F_X8_addView_100
  have e1 : nI (d + 1) - 1 = nI d := nI_s1 (by omega)
  have e2 : nI nv * 4 + nI (d + 1) - 1 = nI (4 * nv + d) := by rw [nI_4, nI_add, show nv * 4 + (d + 1) = (4 * nv + d) + 1 by omega, nI_s1 (by omega)]
  have e3 : (nI (d + 1) = (1 : Int32)) = (d = 0) := by rw [show (1 : Int32) = nI 1 from rfl, nI_eq' (by omega) (by decide)]; exact propext (by omega)
  have o1 : xok (nI (4 * nv + d)) 32 = true := xok_t (by omega) (by decide)
  have o2 : xok (nI nv) 8 = true := xok_t hnv (by decide)
  rw [e1, if_pos ((nI_leI (by omega) (by omega)).mpr (Nat.le_refl _)), e2, if_pos o1, cl_nI (by omega), cl_nI (by omega), show nI nv + 1 = nI (nv + 1) from nI_1 nv]
  simp only [e3, o2, if_true]
  by_cases c : d = 0
  · simp only [if_pos c]
    rw [h0 c]
    rfl
  · simp only [if_neg c]
    obtain ⟨u, hu, rfl, hu2⟩ := h1 c
    rw [if_pos (xok_t hu (by decide)), cl_nI (by omega), xu_ne2 _ _ (Or.inl (by decide)), hu2]
    rfl
theorem addView_l {hi : Nat → Nat → Int32} {d nv q u : Nat} (hd : d ≤ 3) (hnv : nv < 8) (hu : u < 8) {v1 : Int32} (v2 v3 v4 v5 : Int32) (h1 : hi 13 u = nI q) (hd0 : d ≠ 0) :
    F_X8_addView_22 1000000 v1 v2 v3 v4 v5 (nI nv) (nI (d + 1)) (nI u) 0 hi hl r = some (nI nv, V8 (xfill hi 10 (4 * nv) d (fun j => hi 10 (4 * u + (j - 4 * nv)))) nv d q v2 v3 v4 v5, hl, r) := by
  by_cases huv : u = nv
  · subst huv
    have key : ∀ k n i, i + k = d → k < n → F_X8_addView_22 n v1 v2 v3 v4 v5 (nI u) (nI (d + 1)) (nI u) (nI i) (xfill hi 10 (4 * u) i (fun j => hi 10 (4 * u + (j - 4 * u)))) hl r = some (nI u, V8 (xfill hi 10 (4 * u) d (fun j => hi 10 (4 * u + (j - 4 * u)))) u d q v2 v3 v4 v5, hl, r) := by
      intro k
      induction k with
      | zero =>
        intro n i hik hn
        obtain ⟨n, rfl⟩ : ∃ q, n = q + 1 := ⟨n - 1, by omega⟩
        have : i = d := by omega
        subst this
        exact addView_f hd hnv v2 v3 v4 v5 (fun e => absurd e hd0) (fun _ => ⟨u, hu, rfl, by rw [xfill_out _ _ _ _ _ (Or.inl (by decide)), h1]⟩)
      | succ k ih =>
        intro n i hik hn
        obtain ⟨n, rfl⟩ : ∃ q, n = q + 1 := ⟨n - 1, by omega⟩
        have e1 : nI (d + 1) - 1 = nI d := nI_s1 (by omega)
        have g : ¬ nI d ≤ nI i := by rw [nI_leI (by omega) (by omega)]; omega
        have e2 : nI u * 4 + nI i = nI (4 * u + i) := by rw [nI_4, nI_add, Nat.mul_comm]
        unfold F_X8_addView_22
        rw [e1, if_neg g, e2, if_pos (xok_t (by omega) (by decide)), if_pos (xok_t (by omega) (by decide)), cl_nI (by omega), xfill_out _ _ _ _ _ (by omega), xfill_s hi _ _ _ _ (by simp), show nI i + 1 = nI (i + 1) from nI_1 i]
        exact ih n (i + 1) (by omega) (by omega)
    have k1 := key d 1000000 0 (by omega) (by omega)
    rw [xfill_0] at k1
    exact k1
  · have key : ∀ k n i, i + k = d → k < n → F_X8_addView_22 n v1 v2 v3 v4 v5 (nI nv) (nI (d + 1)) (nI u) (nI i) (xfill hi 10 (4 * nv) i (fun j => hi 10 (4 * u + (j - 4 * nv)))) hl r = some (nI nv, V8 (xfill hi 10 (4 * nv) d (fun j => hi 10 (4 * u + (j - 4 * nv)))) nv d q v2 v3 v4 v5, hl, r) := by
      intro k
      induction k with
      | zero =>
        intro n i hik hn
        obtain ⟨n, rfl⟩ : ∃ q, n = q + 1 := ⟨n - 1, by omega⟩
        have : i = d := by omega
        subst this
        exact addView_f hd hnv v2 v3 v4 v5 (fun e => absurd e hd0) (fun _ => ⟨u, hu, rfl, by rw [xfill_out _ _ _ _ _ (Or.inl (by decide)), h1]⟩)
      | succ k ih =>
        intro n i hik hn
        obtain ⟨n, rfl⟩ : ∃ q, n = q + 1 := ⟨n - 1, by omega⟩
        have e1 : nI (d + 1) - 1 = nI d := nI_s1 (by omega)
        have g : ¬ nI d ≤ nI i := by rw [nI_leI (by omega) (by omega)]; omega
        have e2 : nI u * 4 + nI i = nI (4 * u + i) := by rw [nI_4, nI_add, Nat.mul_comm]
        have e3 : nI nv * 4 + nI i = nI (4 * nv + i) := by rw [nI_4, nI_add, Nat.mul_comm]
        unfold F_X8_addView_22
        rw [e1, if_neg g, e2, e3, if_pos (xok_t (by omega) (by decide)), if_pos (xok_t (by omega) (by decide)), cl_nI (by omega), cl_nI (by omega), xfill_out _ _ _ _ _ (by omega), xfill_s hi _ _ _ _ (by simp), show nI i + 1 = nI (i + 1) from nI_1 i]
        exact ih n (i + 1) (by omega) (by omega)
    have k1 := key d 1000000 0 (by omega) (by omega)
    rw [xfill_0] at k1
    exact k1
theorem mview_l {H : Nat → Nat → Int32} {nv d : Nat} (h : H 90 6 = nI nv) (hnv : nv < 8) (hd : d ≤ 3) (v1 v2 v3 v4 v5 : Int32) : F_X12_view_105 v1 v2 v3 v4 v5 (nI d) H hl r = some (nI nv, V12 H nv d v1 v2 v3 v4 v5, hl, r) := by
  have n8 : ¬ nI nv = (8 : Int32) := by rw [show (8 : Int32) = nI 8 from rfl, nI_eq' (by omega) (by decide)]; omega
  have n4 : ¬ nI d = (4 : Int32) := by rw [show (4 : Int32) = nI 4 from rfl, nI_eq' (by omega) (by decide)]; omega
  have o2 : xok (nI nv) 8 = true := xok_t hnv (by decide)
  have u : ∀ (f : Nat → Nat → Int32) (a j : Nat) (v : Int32), a ≠ 90 → (xu f a j v) 90 6 = f 90 6 := fun f a j v ha => xu_ne2 _ _ (Or.inl (fun e => ha e.symm))
  unfold F_X12_view_105
  rw [h, u _ 95 _ _ (by decide), h, u _ 96 _ _ (by decide), u _ 95 _ _ (by decide), h, u _ 97 _ _ (by decide), u _ 96 _ _ (by decide), u _ 95 _ _ (by decide), h, u _ 98 _ _ (by decide), u _ 97 _ _ (by decide), u _ 96 _ _ (by decide), u _ 95 _ _ (by decide), h, u _ 99 _ _ (by decide), u _ 98 _ _ (by decide), u _ 97 _ _ (by decide), u _ 96 _ _ (by decide), u _ 95 _ _ (by decide), h, u _ 100 _ _ (by decide), u _ 99 _ _ (by decide), u _ 98 _ _ (by decide), u _ 97 _ _ (by decide), u _ 96 _ _ (by decide), u _ 95 _ _ (by decide), h]
  rw [if_neg n8, if_neg n4, if_pos o2, if_pos o2, if_pos o2, if_pos o2, if_pos o2, if_pos o2, xu_at, cl_nI (by omega), show nI nv + 1 = nI (nv + 1) from nI_1 nv, show nI d + 1 = nI (d + 1) from nI_1 d, nI_s1 (by omega)]
  rfl
end VIEW
theorem V8_ne (H : Nat → Nat → Int32) {a : Nat} (nv d q : Nat) (v2 v3 v4 v5 : Int32) (h : a ∉ [6, 7, 8, 9, 10, 11, 12, 13]) : V8 H nv d q v2 v3 v4 v5 a = H a := by
  simp only [List.mem_cons, List.not_mem_nil, or_false, not_or] at h
  obtain ⟨n6, n7, n8, n9, n10, n11, n12, n13⟩ := h
  unfold V8
  rw [xu_ne _ _ _ n6, xu_ne _ _ _ n12, xu_ne _ _ _ n11, xu_ne _ _ _ n8, xu_ne _ _ _ n7, xu_ne _ _ _ n9, xu_ne _ _ _ n13, xu_ne _ _ _ n10]
theorem V12_ne (H : Nat → Nat → Int32) {a : Nat} (nv d : Nat) (v1 v2 v3 v4 v5 : Int32) (h : a ∉ [90, 95, 96, 97, 98, 99, 100]) : V12 H nv d v1 v2 v3 v4 v5 a = H a := by
  simp only [List.mem_cons, List.not_mem_nil, or_false, not_or] at h
  obtain ⟨n6, n7, n8, n9, n10, n11, n12⟩ := h
  unfold V12
  rw [xu_ne _ _ _ n6, xu_ne _ _ _ n12, xu_ne _ _ _ n11, xu_ne _ _ _ n10, xu_ne _ _ _ n9, xu_ne _ _ _ n8, xu_ne _ _ _ n7]
theorem m20 : (-20 : Int32).toInt = -20 := by decide +kernel
theorem p20 : (20 : Int32).toInt = 20 := by decide +kernel
theorem m3 : (-3 : Int32).toInt = -3 := by decide +kernel
theorem p3 : (3 : Int32).toInt = 3 := by decide +kernel
theorem m20' : (-20 : Int64).toInt = -20 := by decide +kernel
theorem p20' : (20 : Int64).toInt = 20 := by decide +kernel
theorem m3' : (-3 : Int64).toInt = -3 := by decide +kernel
theorem p3' : (3 : Int64).toInt = 3 := by decide +kernel
theorem op_view (a0 a1 a2 a3 a4 : Int32) : xOpI xInv (F_X11_view a0 a1 a2 a3 a4) (F_X12_view a0 a1 a2 a3 a4) := by
  intro hi hl r h
  have h0 := h
  obtain ⟨nb, bk, bz, ck, cn, nv, vb, vf, vs, vc, vk, ch, bo, tk, tn, P, nx, G, ln, lp, md, mt, sn, st, sc, h1, h2, h3, h4, h5, h6, h7, h8, h9⟩ := h
  obtain ⟨n1, n2, n3, n4⟩ := h2
  have hnb := h1.1
  have hth := h0.th
  have fin : ∀ (d q w : Nat) (c : List Nat), c.length = d → d ≤ 4 → q < nb → a0 = nI w → ((w < nb ∧ c = [] ∧ q = w) ∨ ∃ u, u < nv ∧ w = 10 + u ∧ c = ch u ∧ q = bo u) →
      F_X11_view a0 a1 a2 a3 a4 hi hl r = F_X11_view_28 a0 a1 a2 a3 a4 1 hi hl r →
      (∀ hi', (∀ a, a ∉ [6, 7, 8, 9, 10, 11, 12, 13] → hi' a = hi a) → F_X12_view a0 a1 a2 a3 a4 hi' hl r = F_X12_view_30 a0 a1 a2 a3 a4 (xu hi' 90 0 0) hl r) →
      F_X8_depthUpon a0 hi hl r = some (nI (d + 1), hi, hl, r) →
      (∀ hi', (∀ a, a ∉ [6, 7, 8, 9, 10, 11, 12, 13] → hi' a = hi a) → (if a0 ≤ (9 : Int32) then F_X12_view_105 a0 a1 a2 a3 a4 0 (xu hi' 90 0 0) hl r else if xok (a0 - 10) 8 = true then F_X12_view_105 a0 a1 a2 a3 a4 ((xu hi' 90 0 0) 100 (Int32.toNatClampNeg (a0 - 10))) (xu hi' 90 0 0) hl r else none) = F_X12_view_105 a0 a1 a2 a3 a4 (nI d) (xu hi' 90 0 0) hl r) →
      (d ≤ 3 → nv < 8 → ∃ H, F_X8_addView a0 a1 a2 a3 a4 hi hl r = some (nI nv, V8 H nv d q a1 a2 a3 a4, hl, r) ∧ (∀ a, a ≠ 10 → H a = hi a) ∧ (∀ j, j < 4 * nv → H 10 j = hi 10 j) ∧ ∀ k x, c[k]? = some x → H 10 (4 * nv + k) = nI x) →
      ∃ (v : Int32) (s1 s2 : xSt), F_X11_view a0 a1 a2 a3 a4 hi hl r = some (v, s1) ∧ F_X12_view a0 a1 a2 a3 a4 s1.1 s1.2.1 s1.2.2 = some (v, s2) ∧ xInv s2.1 s2.2.1 s2.2.2 := by
    intro d q w c hc hd hq hw hbase t11 t12 hdep hlev hadd
    have bad : F_X11_view_28 a0 a1 a2 a3 a4 1 hi hl r = some (-1, hi, hl, r) → F_X12_view_30 a0 a1 a2 a3 a4 (xu hi 90 0 0) hl r = some (-1, xu hi 90 0 0, hl, r) → ∃ (v : Int32) (s1 s2 : xSt), F_X11_view a0 a1 a2 a3 a4 hi hl r = some (v, s1) ∧ F_X12_view a0 a1 a2 a3 a4 s1.1 s1.2.1 s1.2.2 = some (v, s2) ∧ xInv s2.1 s2.2.1 s2.2.2 :=
      fun b1 b2 => ⟨-1, (hi, hl, r), (xu hi 90 0 0, hl, r), by rw [t11, b1], by simp only; rw [t12 hi (fun _ _ => rfl), b2], hth⟩
    by_cases c1 : (-20 : Int) ≤ a1.toInt ∧ a1.toInt ≤ 20
    case neg =>
      apply bad
      · unfold F_X11_view_28
        rw [if_neg (by decide), wo2 m20 p20 c1, xbP_some, if_pos rfl]
      · unfold F_X12_view_30
        rw [io2 m20' p20' c1, xbP_some, if_pos rfl]
    by_cases c2 : (-3 : Int) ≤ a2.toInt ∧ a2.toInt ≤ 3
    case neg =>
      apply bad
      · unfold F_X11_view_28
        rw [if_neg (by decide), wi2 m20 p20 c1, xbP_some, if_neg (by decide), wo2 m3 p3 c2, xbP_some, if_pos rfl]
      · unfold F_X12_view_30
        rw [ii2 m20' p20' c1, xbP_some, if_neg (by decide), io2 m3' p3' c2, xbP_some, if_pos rfl]
    by_cases c3 : (1 : Int) ≤ a3.toInt ∧ a3.toInt ≤ 12
    case neg =>
      apply bad
      · unfold F_X11_view_28
        rw [if_neg (by decide), wi2 m20 p20 c1, xbP_some, if_neg (by decide), wi2 m3 p3 c2, xbP_some, if_neg (by decide), wo2 (A := 1) (B := 12) (by decide) (by decide) c3, xbP_some, if_pos rfl]
      · unfold F_X12_view_30
        rw [ii2 m20' p20' c1, xbP_some, if_neg (by decide), ii2 m3' p3' c2, xbP_some, if_neg (by decide), io2 (A := 1) (B := 12) (by decide) (by decide) c3, xbP_some, if_pos rfl]
    by_cases c4 : (0 : Int) ≤ a4.toInt ∧ a4.toInt ≤ 8
    case neg =>
      apply bad
      · unfold F_X11_view_28
        rw [if_neg (by decide), wi2 m20 p20 c1, xbP_some, if_neg (by decide), wi2 m3 p3 c2, xbP_some, if_neg (by decide), wi2 (A := 1) (B := 12) (by decide) (by decide) c3, xbP_some, if_neg (by decide), wo2 (A := 0) (B := 8) (by decide) (by decide) c4, xbP_some, if_pos rfl]
      · unfold F_X12_view_30
        rw [ii2 m20' p20' c1, xbP_some, if_neg (by decide), ii2 m3' p3' c2, xbP_some, if_neg (by decide), ii2 (A := 1) (B := 12) (by decide) (by decide) c3, xbP_some, if_neg (by decide), io2 (A := 0) (B := 8) (by decide) (by decide) c4, xbP_some, if_pos rfl]
    have q8 : (nI nv = (8 : Int32)) = (nv = 8) := nI_eq' (b := 8) (by omega) (by decide)
    have q4 : (nI (d + 1) ≤ (4 : Int32)) = (d + 1 ≤ 4) := nI_le' (b := 4) (by omega) (by decide)
    have A : F_X11_view_28 a0 a1 a2 a3 a4 1 hi hl r = if nv = 8 then some (-3, hi, hl, r) else if d + 1 ≤ 4 then F_X8_addView a0 a1 a2 a3 a4 hi hl r else some (-3, hi, hl, r) := by
      unfold F_X11_view_28
      rw [if_neg (by decide), wi2 m20 p20 c1, xbP_some, if_neg (by decide), wi2 m3 p3 c2, xbP_some, if_neg (by decide), wi2 (A := 1) (B := 12) (by decide) (by decide) c3, xbP_some, if_neg (by decide), wi2 (A := 0) (B := 8) (by decide) (by decide) c4, xbP_some, if_neg (by decide), n2, hdep, xbI_some]
      simp only [q8, q4]
      by_cases e8 : nv = 8
      · simp only [if_pos e8]
      · simp only [if_neg e8]
        by_cases e4 : d + 1 ≤ 4
        · simp only [if_pos e4]
          obtain ⟨H, hH, -⟩ := hadd (by omega) (by omega)
          rw [hH, xbI_some]
        · simp only [if_neg e4]
    have B : ∀ hi', (∀ a, a ∉ [6, 7, 8, 9, 10, 11, 12, 13] → hi' a = hi a) → F_X12_view a0 a1 a2 a3 a4 hi' hl r = F_X12_view_105 a0 a1 a2 a3 a4 (nI d) (xu hi' 90 0 0) hl r := by
      intro hi' he
      rw [t12 hi' he]
      unfold F_X12_view_30
      rw [ii2 m20' p20' c1, xbP_some, if_neg (by decide), ii2 m3' p3' c2, xbP_some, if_neg (by decide), ii2 (A := 1) (B := 12) (by decide) (by decide) c3, xbP_some, if_neg (by decide), ii2 (A := 0) (B := 8) (by decide) (by decide) c4, xbP_some, if_neg (by decide)]
      exact hlev hi' he
    have full : nv = 8 ∨ d = 4 → ∃ (v : Int32) (s1 s2 : xSt), F_X11_view a0 a1 a2 a3 a4 hi hl r = some (v, s1) ∧ F_X12_view a0 a1 a2 a3 a4 s1.1 s1.2.1 s1.2.2 = some (v, s2) ∧ xInv s2.1 s2.2.1 s2.2.2 := by
      intro hf
      refine ⟨-3, (hi, hl, r), (xu hi 90 0 0, hl, r), ?_, ?_, hth⟩
      · rw [t11, A]
        by_cases e8 : nv = 8
        · rw [if_pos e8]
        · rw [if_neg e8, if_neg (by omega)]
      · simp only
        rw [B hi (fun _ _ => rfl)]
        unfold F_X12_view_105
        have e6 : (xu hi 90 0 (0 : Int32)) 90 6 = nI nv := by rw [xu_ne2 _ _ (Or.inr (by decide)), n3]
        rw [e6]
        simp only [q8]
        by_cases e8 : nv = 8
        · rw [if_pos e8]
        · have e4 : d = 4 := by omega
          rw [if_neg e8, e4, if_pos (by decide)]
    by_cases e8 : nv = 8
    · exact full (Or.inl e8)
    by_cases e4 : d = 4
    · exact full (Or.inr e4)
    have hnv : nv < 8 := by omega
    have hd3 : d ≤ 3 := by omega
    obtain ⟨H, hH, hH1, hH2, hH3⟩ := hadd hd3 hnv
    rw [if_neg e8, if_pos (by omega), hH] at A
    generalize hA : V8 H nv d q a1 a2 a3 a4 = hiA at A
    have rA : ∀ a, a ∉ [6, 7, 8, 9, 10, 11, 12, 13] → hiA a = hi a := by
      intro a ha
      rw [← hA, V8_ne _ _ _ _ _ _ _ _ ha, hH1 a (fun e => ha (by rw [e]; decide))]
    have e6 : (xu hiA 90 0 (0 : Int32)) 90 6 = nI nv := by rw [xu_ne2 _ _ (Or.inr (by decide)), rA 90 (by decide), n3]
    have mv := mview_l (hl := hl) (r := r) e6 hnv hd3 a0 a1 a2 a3 a4
    generalize hD : V12 (xu hiA 90 0 (0 : Int32)) nv d a0 a1 a2 a3 a4 = hiD at mv
    refine ⟨nI nv, (hiA, hl, r), (hiD, hl, r), by rw [t11, A], by simp only; rw [B hiA rA, mv], ?_⟩
    have hn : ∀ a, a ∉ [6, 7, 8, 9, 10, 11, 12, 13, 90, 95, 96, 97, 98, 99, 100] → hiD a = hi a := by
      intro a ha
      simp only [List.mem_cons, List.not_mem_nil, or_false, not_or] at ha
      rw [← hD, V12_ne _ _ _ _ _ _ _ _ (by simp <;> omega), xu_ne _ _ _ (by omega), rA a (by simp <;> omega)]
    have hp : ∀ i, i ∉ [0, 6] → hiD 90 i = hi 90 i := by
      intro i hi9
      simp only [List.mem_cons, List.not_mem_nil, or_false, not_or] at hi9
      rw [← hD]
      unfold V12
      rw [xu_ne2 _ _ (Or.inr hi9.2), xu_ne _ _ _ (by decide), xu_ne _ _ _ (by decide), xu_ne _ _ _ (by decide), xu_ne _ _ _ (by decide), xu_ne _ _ _ (by decide), xu_ne _ _ _ (by decide), xu_ne2 _ _ (Or.inr hi9.1), rA 90 (by decide)]
    have hnl : ∀ a, a ∉ ([] : List Nat) → hl a = hl a := fun _ _ => rfl
    have hpl : hl 90 14 = hl 90 14 := rfl
    have rD : ∀ a, a ∈ [6, 7, 8, 9, 10, 11, 12, 13] → hiD a = hiA a := by
      intro a ha
      simp only [List.mem_cons, List.not_mem_nil, or_false] at ha
      rw [← hD, V12_ne _ _ _ _ _ _ _ _ (by simp <;> omega), xu_ne _ _ _ (by omega)]
    have h6' : IL (nv + 1) ln lp hiD := by
      obtain ⟨l1, l2, l3, l4, l5, l6, l7⟩ := h6.tr (hn 30 (by decide)) (hn 31 (by decide)) (hn 107 (by decide)) (hp 22 (by decide))
      refine ⟨l1, l2, l3, l4, l5, fun i hi9 => ?_, l7⟩
      obtain ⟨p1, p2, p3⟩ := l6 i hi9
      exact ⟨p1, fun e => ⟨by have := (p2 e).1; omega, by have := (p2 e).2.1; omega, (p2 e).2.2⟩, p3⟩
    obtain ⟨k, hk⟩ : ∃ k : Nat, a4 = nI k ∧ k ≤ 8 := ⟨a4.toInt.toNat, Int32.toInt_inj.mp (by rw [nI_toInt (by omega)]; omega), by omega⟩
    obtain ⟨m, hm⟩ : ∃ m : Nat, a3 = nI m ∧ 1 ≤ m ∧ m ≤ 12 := ⟨a3.toInt.toNat, Int32.toInt_inj.mp (by rw [nI_toInt (by omega)]; omega), by omega, by omega⟩
    refine ⟨nb, bk, bz, ck, cn, (nv + 1), (fun v => if v = nv then w else vb v), (fun v => if v = nv then a1.toInt else vf v), (fun v => if v = nv then a2.toInt else vs v), (fun v => if v = nv then m else vc v), (fun v => if v = nv then k else vk v), (fun v => if v = nv then c ++ [nv] else ch v), (fun v => if v = nv then q else bo v), tk, tn, P, nx, G, ln, lp, md, mt, sn, st, sc, h1.tr (lx hn (by decide)) (hp 1 (by decide)) (lx hnl (by decide)), ?_, h3.tr (hn 85 (by decide)) (hnl 85 (by decide)) (hp 13 (by decide)) hpl, h4.tr (fun a g1 g2 => hn a (by simp <;> omega)) (lx hn (by decide)) (hp 15 (by decide)) (fun a g1 g2 => hnl a (by simp <;> omega)) (hnl 103 (by decide)), h5.tr (lx hn (by decide)) (lx hnl (by decide)), h6', h7.tr (lx hn (by decide)), h8.tr (lx hn (by decide)) (hp 26 (by decide)), h9.tr (hn 121 (by decide)) (hn 112 (by decide)) (hp 29 (by decide))⟩
    have u8 : ∀ (a j : Nat), a ∈ [7, 8, 9, 11, 12, 13] → hiD a j = if j = nv then (if a = 7 then a1 else if a = 8 then a2 else if a = 9 then nI (d + 1) else if a = 11 then a3 else if a = 12 then a4 else nI q) else hi a j := by
      intro a j ha
      have hb : a ≠ 10 := fun e => absurd (e ▸ ha) (by decide)
      rw [rD a (by simp only [List.mem_cons, List.not_mem_nil, or_false] at ha ⊢; omega), ← hA, ← hH1 a hb]
      unfold V8
      simp only [List.mem_cons, List.not_mem_nil, or_false] at ha
      rcases ha with rfl | rfl | rfl | rfl | rfl | rfl <;> by_cases e : j = nv <;> simp [xu, e]
    have u12 : ∀ (a j : Nat), a ∈ [95, 96, 97, 98, 99, 100] → hiD a j = if j = nv then (if a = 95 then a0 else if a = 96 then a1 else if a = 97 then a2 else if a = 98 then a3 else if a = 99 then a4 else nI (d + 1)) else hi a j := by
      intro a j ha
      have hb : hiA a = hi a := rA a (by simp only [List.mem_cons, List.not_mem_nil, or_false] at ha ⊢; omega)
      rw [← hD, ← hb]
      unfold V12
      simp only [List.mem_cons, List.not_mem_nil, or_false] at ha
      rcases ha with rfl | rfl | rfl | rfl | rfl | rfl <;> by_cases e : j = nv <;> simp [xu, e]
    have u10 : ∀ j, hiD 10 j = if j = 4 * nv + d then nI nv else H 10 j := by
      intro j
      rw [rD 10 (by decide), ← hA]
      unfold V8
      simp [xu]
    refine ⟨by omega, ?_, ?_, ?_⟩
    · show hiD 6 8 = _
      rw [rD 6 (by decide), ← hA]
      unfold V8
      exact xu_at _ _ _ _
    · show hiD 90 6 = _
      rw [← hD]
      unfold V12
      exact xu_at _ _ _ _
    · intro v hv
      by_cases e : v = nv
      · subst e
        simp only [if_true]
        refine ⟨⟨hm.2, hk.2, c1, c2, by simp <;> omega, hq⟩, ⟨?_, ?_, ?_, ?_, ?_, ?_, ?_, ?_⟩, ⟨?_, ?_, ?_, ?_⟩, ?_, ?_⟩
        · show hiD 7 v = _; rw [u8 7 v (by decide)]; simp
        · show hiD 96 v = _; rw [u12 96 v (by decide)]; simp
        · show hiD 8 v = _; rw [u8 8 v (by decide)]; simp
        · show hiD 97 v = _; rw [u12 97 v (by decide)]; simp
        · show hiD 11 v = _; rw [u8 11 v (by decide)]; simp [hm.1]
        · show hiD 98 v = _; rw [u12 98 v (by decide)]; simp [hm.1]
        · show hiD 12 v = _; rw [u8 12 v (by decide)]; simp [hk.1]
        · show hiD 99 v = _; rw [u12 99 v (by decide)]; simp [hk.1]
        · show hiD 9 v = _; rw [u8 9 v (by decide)]; simp [hc]
        · show hiD 100 v = _; rw [u12 100 v (by decide)]; simp [hc]
        · show hiD 13 v = _; rw [u8 13 v (by decide)]; simp
        · show hiD 95 v = _; rw [u12 95 v (by decide)]; simp [hw]
        · intro k x hx
          show hiD 10 (4 * v + k) = _
          rw [u10]
          by_cases ek : k < d
          · rw [List.getElem?_append_left (by omega)] at hx
            rw [if_neg (by omega)]
            exact hH3 k x hx
          · rw [List.getElem?_append_right (by omega), hc] at hx
            have : k - d = 0 := by
              rcases Nat.eq_zero_or_pos (k - d) with z | z
              · exact z
              · rw [List.getElem?_eq_none (by simp <;> omega)] at hx; exact absurd hx (by simp)
            rw [this] at hx
            simp at hx
            rw [if_pos (by omega), hx]
        · rcases hbase with ⟨b1, b2, b3⟩ | ⟨u, b1, b2, b3, b4⟩
          · exact Or.inl ⟨b1, by rw [b2]; rfl, b3⟩
          · exact Or.inr ⟨u, b1, b2, by rw [if_neg (by omega), b3], by rw [if_neg (by omega), b4]⟩
      · simp only [if_neg e]
        obtain ⟨g1, ⟨f1, f2, f3, f4, f5, f6, f7, f8⟩, ⟨f9, f10, f11, f12⟩, f13, f14⟩ := n4 v (by omega)
        refine ⟨g1, ⟨?_, ?_, ?_, ?_, ?_, ?_, ?_, ?_⟩, ⟨?_, ?_, ?_, ?_⟩, ?_, ?_⟩
        · show hiD 7 v = _; rw [u8 7 v (by decide), if_neg e, f1]
        · show hiD 96 v = _; rw [u12 96 v (by decide), if_neg e, f2]
        · show hiD 8 v = _; rw [u8 8 v (by decide), if_neg e, f3]
        · show hiD 97 v = _; rw [u12 97 v (by decide), if_neg e, f4]
        · show hiD 11 v = _; rw [u8 11 v (by decide), if_neg e, f5]
        · show hiD 98 v = _; rw [u12 98 v (by decide), if_neg e, f6]
        · show hiD 12 v = _; rw [u8 12 v (by decide), if_neg e, f7]
        · show hiD 99 v = _; rw [u12 99 v (by decide), if_neg e, f8]
        · show hiD 9 v = _; rw [u8 9 v (by decide), if_neg e, f9]
        · show hiD 100 v = _; rw [u12 100 v (by decide), if_neg e, f10]
        · show hiD 13 v = _; rw [u8 13 v (by decide), if_neg e, f11]
        · show hiD 95 v = _; rw [u12 95 v (by decide), if_neg e, f12]
        · intro k x hx
          have hk4 : k < 4 := by
            have := g1.2.2.2.2.1
            rcases Nat.lt_or_ge k (ch v).length with z | z
            · omega
            · rw [List.getElem?_eq_none z] at hx; exact absurd hx (by simp)
          show hiD 10 (4 * v + k) = _
          rw [u10, if_neg (by omega), hH2 _ (by omega)]
          exact f13 k x hx
        · rcases f14 with b | ⟨u, b1, b2, b3, b4⟩
          · exact Or.inl b
          · exact Or.inr ⟨u, b1, b2, by rw [if_neg (by omega)]; exact b3, by rw [if_neg (by omega)]; exact b4⟩
  rcases rng a0 (n := nb) (by omega) with ⟨b, hb, rfl, eb⟩ | hbad
  · have g10 : ¬ (10 : Int32) ≤ nI b := by rw [show (10 : Int32) = nI 10 from rfl, nI_leI (by decide) (by omega)]; omega
    have g9 : nI b ≤ (9 : Int32) := by rw [show (9 : Int32) = nI 9 from rfl, nI_leI (by omega) (by decide)]; omega
    refine fin 0 b b [] rfl (by omega) hb rfl (Or.inl ⟨hb, rfl, rfl⟩) ?_ ?_ ?_ ?_ ?_
    · unfold F_X11_view
      rw [if_neg g10, bhas_i h1.2.1 hnb hb, xbI_some]
    · intro hi' he
      unfold F_X12_view
      rw [mbank_i (nb := nb) (by rw [xu_ne2 _ _ (Or.inr (by decide)), he 90 (by decide)]; exact h1.2.2.1) hnb hb, xbI_some, if_neg (by decide)]
    · unfold F_X8_depthUpon
      rw [if_neg g10]
      rfl
    · intro hi' he
      rw [if_pos g9]
      rfl
    · intro _ hnv
      refine ⟨hi, ?_, fun _ _ => rfl, fun _ _ => rfl, fun k x hx => by simp at hx⟩
      unfold F_X8_addView F_X8_depthUpon
      rw [if_neg g10, xbI_some, n2]
      have kk := addView_f (hl := hl) (r := r) (H := hi) (d := 0) (nv := nv) (q := b) (m := 999999) (v1 := nI b) (v8 := nI b - 10) (by omega) hnv a1 a2 a3 a4 (fun _ => rfl) (fun e => absurd rfl e)
      rw [show nI (0 + 1) = (1 : Int32) from rfl, show nI 0 = (0 : Int32) from rfl] at kk
      exact kk
  · by_cases g10 : (10 : Int32) ≤ a0
    · have i10 : (10 : Int) ≤ a0.toInt := Int32.le_iff_toInt_le.mp g10
      have g9 : ¬ a0 ≤ (9 : Int32) := fun q => by
        have : a0.toInt ≤ 9 := Int32.le_iff_toInt_le.mp q
        omega
      rcases rng (a0 - 10) (n := nv) (by omega) with ⟨u, hu, eu, eu'⟩ | hbad2
      · have ea : a0 = nI (10 + u) := by
          have : a0 = (a0 - 10) + 10 := by simp
          rw [this, eu, show (10 : Int32) = nI 10 from rfl, nI_add, Nat.add_comm]
        obtain ⟨g1, ⟨f1, f2, f3, f4, f5, f6, f7, f8⟩, ⟨f9, f10, f11, f12⟩, f13, f14⟩ := n4 u hu
        have hne : (ch u).length ≠ 0 := by
          rcases f14 with ⟨w1, b, w2⟩ | ⟨w0, w1, w2, b, w3⟩ <;> rw [b] <;> simp
        refine fin (ch u).length (bo u) (10 + u) (ch u) rfl g1.2.2.2.2.1 g1.2.2.2.2.2 ea (Or.inr ⟨u, hu, rfl, rfl, rfl⟩) ?_ ?_ ?_ ?_ ?_
        · unfold F_X11_view
          rw [if_pos g10, eu, vhas_i n2 n1 hu, xbI_some]
        · intro hi' he
          unfold F_X12_view
          rw [mbank_o (nb := nb) (by rw [xu_ne2 _ _ (Or.inr (by decide)), he 90 (by decide)]; exact h1.2.2.1) hnb hbad, xbI_some, if_pos rfl, if_neg g9, eu, mview_i (nv := nv) (by rw [xu_ne2 _ _ (Or.inr (by decide)), he 90 (by decide)]; exact n3) n1 hu, xbI_some, if_neg (by decide)]
        · unfold F_X8_depthUpon
          rw [if_pos g10, eu, if_pos (xok_t (by omega) (by decide)), cl_nI (by omega), f9, show nI (ch u).length + 1 = nI ((ch u).length + 1) from nI_1 _]
        · intro hi' he
          rw [if_neg g9, eu, if_pos (xok_t (by omega) (by decide)), cl_nI (by omega), xu_ne2 _ _ (Or.inl (by decide)), he 100 (by decide), f10]
        · intro hd hnv
          refine ⟨xfill hi 10 (4 * nv) (ch u).length (fun j => hi 10 (4 * u + (j - 4 * nv))), ?_, fun a ha => xfill_ne _ _ _ _ ha, fun j hj => xfill_out _ _ _ _ _ (by omega), fun k x hx => ?_⟩
          · unfold F_X8_addView F_X8_depthUpon
            rw [if_pos g10, eu, if_pos (xok_t (by omega) (by decide)), cl_nI (by omega), f9, show nI (ch u).length + 1 = nI ((ch u).length + 1) from nI_1 _, xbI_some, n2]
            exact addView_l hd hnv (by omega) _ _ _ _ f11 hne
          · have hkl : k < (ch u).length := by
              rcases Nat.lt_or_ge k (ch u).length with z | z
              · exact z
              · rw [List.getElem?_eq_none z] at hx; exact absurd hx (by simp)
            rw [xfill_in _ _ _ _ _ (by omega) (by omega), show 4 * nv + k - 4 * nv = k by omega]
            exact f13 k x hx
      · refine ⟨-1, (hi, hl, r), (xu hi 90 0 0, hl, r), ?_, ?_, hth⟩
        · unfold F_X11_view F_X11_view_28
          rw [if_pos g10, vhas_o n2 n1 hbad2, xbI_some, if_pos rfl]
        · unfold F_X12_view
          simp only
          rw [mbank_o (nb := nb) (by rw [xu_ne2 _ _ (Or.inr (by decide))]; exact h1.2.2.1) hnb hbad, xbI_some, if_pos rfl, if_neg g9, mview_o (nv := nv) (by rw [xu_ne2 _ _ (Or.inr (by decide))]; exact n3) n1 hbad2, xbI_some, if_pos rfl]
    · have g9 : a0 ≤ (9 : Int32) := by
        apply Int32.le_iff_toInt_le.mpr
        have : ¬ (10 : Int) ≤ a0.toInt := fun q => g10 (Int32.le_iff_toInt_le.mpr q)
        show a0.toInt ≤ 9
        omega
      refine ⟨-1, (hi, hl, r), (xu hi 90 0 0, hl, r), ?_, ?_, hth⟩
      · unfold F_X11_view F_X11_view_28
        rw [if_neg g10, bhas_o h1.2.1 hnb hbad, xbI_some, if_pos rfl]
      · unfold F_X12_view
        simp only
        rw [mbank_o (nb := nb) (by rw [xu_ne2 _ _ (Or.inr (by decide))]; exact h1.2.2.1) hnb hbad, xbI_some, if_pos rfl, if_pos g9]
