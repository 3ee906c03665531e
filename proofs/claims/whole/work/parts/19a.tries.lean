/-! tries: sets of kinds as numbers -/
def bN (f : Nat → Bool) : Nat → Nat
  | 0 => 0
  | n + 1 => bN f n + (if f n = true then 2 ^ n else 0)
theorem bN_sum (f : Nat → Bool) : ∀ n, ((List.range n).map fun k => if f k = true then 2 ^ k else 0).sum = bN f n := by
  intro n
  induction n with
  | zero => rfl
  | succ n ih =>
    rw [List.range_succ, List.map_append, List.sum_append, ih]
    simp [bN]
theorem bN_lt (f : Nat → Bool) : ∀ n, bN f n < 2 ^ n := by
  intro n
  induction n with
  | zero => show 0 < 2 ^ 0; decide
  | succ n ih =>
    simp only [bN]
    rw [Nat.pow_succ]
    by_cases c : f n = true
    · rw [if_pos c]; omega
    · rw [if_neg c]; omega
theorem bN_or (f : Nat → Bool) (n : Nat) : bN f (n + 1) = bN f n ||| (if f n = true then 2 ^ n else 0) := by
  simp only [bN]
  by_cases c : f n = true
  · rw [if_pos c, Nat.add_comm]
    have := Nat.two_pow_add_eq_or_of_lt (bN_lt f n) 1
    rw [Nat.mul_one] at this
    rw [this, Nat.or_comm]
  · rw [if_neg c]; simp
theorem bN_tb (f : Nat → Bool) : ∀ n k, (bN f n).testBit k = (decide (k < n) && f k) := by
  intro n
  induction n with
  | zero => intro k; simp [bN]
  | succ n ih =>
    intro k
    rw [bN_or, Nat.testBit_or, ih k]
    by_cases c : f n = true
    · rw [if_pos c, Nat.testBit_two_pow]
      by_cases e : n = k
      · subst e; simp [c]
      · have : (k < n + 1) = (k < n) := propext ⟨fun q => by omega, fun q => by omega⟩
        simp [e, this]
    · rw [if_neg c]
      by_cases e : n = k
      · subst e
        have : f n = false := by cases h : f n with
          | true => exact absurd h c
          | false => rfl
        simp [this]
      · have : (k < n + 1) = (k < n) := propext ⟨fun q => by omega, fun q => by omega⟩
        simp [this]
theorem bN_and (f g : Nat → Bool) (n : Nat) : bN f n &&& bN g n = bN (fun k => f k && g k) n := by
  apply Nat.eq_of_testBit_eq
  intro k
  rw [Nat.testBit_and, bN_tb, bN_tb, bN_tb]
  cases decide (k < n) <;> simp
theorem bN_ext {f g : Nat → Bool} : ∀ n, (∀ k, k < n → f k = g k) → bN f n = bN g n := by
  intro n
  induction n with
  | zero => intro _; rfl
  | succ n ih =>
    intro h
    simp only [bN]
    rw [ih (fun k hk => h k (by omega)), h n (by omega)]
def lfb (sn : Nat) (st sc : Nat → Nat) (kind : Nat) : Bool := (List.range sn).all (fun j => came kind (st j) == sc j)
theorem lft_b (sn : Nat) (st sc : Nat → Nat) : lft sn st sc = bN (lfb sn st sc) 13 := bN_sum (lfb sn st sc) 13
theorem set_b (j : Nat) : xsetOf j = bN (fun kind => came kind (j / 4) == j % 4) 13 := bN_sum (fun kind => came kind (j / 4) == j % 4) 13
theorem lfb_s (sn : Nat) (st sc : Nat → Nat) (kind : Nat) : lfb (sn + 1) st sc kind = (lfb sn st sc kind && (came kind (st sn) == sc sn)) := by
  unfold lfb
  rw [List.range_succ, List.all_append]
  simp
theorem lfb_e {sn : Nat} {st sc st' sc' : Nat → Nat} (h : ∀ j, j < sn → st' j = st j ∧ sc' j = sc j) (kind : Nat) : lfb sn st' sc' kind = lfb sn st sc kind := by
  unfold lfb
  rw [Bool.eq_iff_iff, List.all_eq_true, List.all_eq_true]
  constructor
  · intro q j hj
    have := h j (List.mem_range.mp hj)
    rw [← this.1, ← this.2]
    exact q j hj
  · intro q j hj
    have := h j (List.mem_range.mp hj)
    rw [this.1, this.2]
    exact q j hj
theorem kindsBy_t : ∀ att, att < 26 → ∀ c, c < 4 → (F_X7_kindsBy (nI att) (nI c) (fun a j => if a = 84 then xwell.getD j 0 else 0) (fun _ _ => 0) (0, fun _ => none)).map Prod.fst = some (nI (xsetOf (4 * att + c))) := by decide +kernel
theorem fst_of {v w : Int32} {s : xSt} (t : Option.map Prod.fst (some (v, s)) = some w) : v = w := Option.some.inj t
theorem kindsBy_c {hi : Nat → Nat → Int32} {hl : Nat → Nat → Int64} {r : xRr} {att c : Nat} (ha : att < 26) (hc : c < 4) (h84 : ∀ j, j < 26 → hi 84 j = xwell.getD j 0) : F_X7_kindsBy (nI att) (nI c) hi hl r = some (nI (xsetOf (4 * att + c)), hi, hl, r) := by
  have t := kindsBy_t att ha c hc
  have c1 : (nI c = (1 : Int32)) = (c = 1) := nI_eq' (b := 1) (by omega) (by decide)
  have c2 : (nI c = (2 : Int32)) = (c = 2) := nI_eq' (b := 2) (by omega) (by decide)
  have c0 : (nI c = (0 : Int32)) = (c = 0) := nI_eq' (b := 0) (by omega) (by decide)
  unfold F_X7_kindsBy at t ⊢
  simp only [c1, c2, c0, if_pos (xok_t ha (show 26 ≤ 10000 by decide)), cl_nI (show att < 2 ^ 31 by omega), h84 att ha, if_true] at t ⊢
  by_cases d1 : c = 1
  · rw [if_pos d1] at t ⊢
    rw [fst_of t]
  · rw [if_neg d1] at t ⊢
    by_cases d2 : c = 2
    · rw [if_pos d2] at t ⊢
      rw [fst_of t]
    · rw [if_neg d2] at t ⊢
      by_cases d0 : c = 0
      · rw [if_pos d0] at t ⊢
        rw [fst_of t]
      · rw [if_neg d0] at t ⊢
        rw [fst_of t]
theorem p25 : (25 : Int32).toInt = ((26 : Nat) : Int) - 1 := by decide +kernel
theorem p25' : (25 : Int64).toInt = ((26 : Nat) : Int) - 1 := by decide +kernel
theorem p3n : (3 : Int32).toInt = ((4 : Nat) : Int) - 1 := by decide +kernel
theorem p3n' : (3 : Int64).toInt = ((4 : Nat) : Int) - 1 := by decide +kernel
theorem op_sees (a0 a1 : Int32) : xOpI xInv (F_X11_sees a0 a1) (F_X12_sees a0 a1) := by
  intro hi hl r h
  have h0 := h
  obtain ⟨nb, bk, bz, ck, cn, nv, vb, vf, vs, vc, vk, ch, bo, tk, tn, P, nx, G, ln, lp, md, mt, sn, st, sc, h1, h2, h3, h4, h5, h6, h7, h8, h9⟩ := h
  obtain ⟨i1, i2, i3, i4, i5, i6⟩ := h8
  rcases (rng a0 (n := 26) (by omega)).symm with hbad | ⟨t, ht, rfl, et⟩
  · refine ⟨-1, (hi, hl, r), (xu hi 90 0 0, hl, r), ?_, ?_, h0.th⟩
    · unfold F_X11_sees
      rw [wo hbad p25, xbP_some, if_pos rfl]
    · unfold F_X12_sees
      simp only
      rw [io hbad p25', xbP_some, if_pos rfl]
  rcases (rng a1 (n := 4) (by omega)).symm with hbad | ⟨c, hc, rfl, ec⟩
  · refine ⟨-1, (hi, hl, r), (xu hi 90 0 0, hl, r), ?_, ?_, h0.th⟩
    · unfold F_X11_sees
      rw [wi et ht p25, xbP_some, if_neg (by decide), wo hbad p3n, xbP_some, if_pos rfl]
    · unfold F_X12_sees
      simp only
      rw [ii et ht p25', xbP_some, if_neg (by decide), io hbad p3n', xbP_some, if_pos rfl]
  have e6 : (nI sn = (6 : Int32)) = (sn = 6) := nI_eq' (b := 6) (by omega) (by decide)
  have y26 : (xu hi 90 0 (0 : Int32)) 90 26 = nI sn := by rw [xu_ne2 _ _ (Or.inr (by decide))]; exact i3
  by_cases c6 : sn = 6
  · refine ⟨-3, (hi, hl, r), (xu hi 90 0 0, hl, r), ?_, ?_, h0.th⟩
    · unfold F_X11_sees
      rw [wi et ht p25, xbP_some, if_neg (by decide), wi ec hc p3n, xbP_some, if_neg (by decide), i2, if_pos (by rw [e6]; exact c6)]
    · unfold F_X12_sees
      simp only
      rw [ii et ht p25', xbP_some, if_neg (by decide), ii ec hc p3n', xbP_some, if_neg (by decide), y26, if_pos (by rw [e6]; exact c6)]
  have n6 : ¬ nI sn = (6 : Int32) := by rw [e6]; exact c6
  generalize est : (fun j => if j = sn then t else st j) = st'
  generalize esc : (fun j => if j = sn then c else sc j) = sc'
  have es : st' sn = t ∧ sc' sn = c := by rw [← est, ← esc]; exact ⟨if_pos rfl, if_pos rfl⟩
  have eo : ∀ j, j < sn → st' j = st j ∧ sc' j = sc j := fun j hj => by rw [← est, ← esc]; exact ⟨if_neg (by omega), if_neg (by omega)⟩
  have el : lft sn st sc &&& xsetOf (4 * t + c) = lft (sn + 1) st' sc' := by
    rw [lft_b, set_b, lft_b, bN_and]
    apply bN_ext
    intro k hk
    rw [lfb_s, lfb_e eo, es.1, es.2, show (4 * t + c) / 4 = t by omega, show (4 * t + c) % 4 = c by omega]
  have kb := kindsBy_c (hi := hi) (hl := hl) (r := r) ht hc i5
  generalize hA : xu (xu hi 83 1 (nI (lft (sn + 1) st' sc'))) 83 2 (nI (sn + 1)) = hiA
  have aI : ∀ a, a ≠ 83 → hiA a = hi a := fun a ha => by rw [← hA, xu_ne _ _ _ ha, xu_ne _ _ _ ha]
  generalize hD : xu (xu (xu (xu hiA 90 0 0) 110 sn (nI t)) 111 sn (nI c)) 90 26 (nI (sn + 1)) = hiD
  have y26' : (xu hiA 90 0 (0 : Int32)) 90 26 = nI sn := by rw [xu_ne2 _ _ (Or.inr (by decide)), aI 90 (by decide)]; exact i3
  have y26'' : (xu (xu hiA 90 0 (0 : Int32)) 110 sn (nI t)) 90 26 = nI sn := by rw [xu_ne2 _ _ (Or.inl (by decide))]; exact y26'
  have y26d : (xu (xu (xu hiA 90 0 (0 : Int32)) 110 sn (nI t)) 111 sn (nI c)) 90 26 = nI sn := by rw [xu_ne2 _ _ (Or.inl (by decide))]; exact y26''
  refine ⟨nI (sn + 1), (hiA, hl, r), (hiD, hl, r), ?_, ?_, ?_⟩
  · unfold F_X11_sees F_X7_note
    rw [wi et ht p25, xbP_some, if_neg (by decide), wi ec hc p3n, xbP_some, if_neg (by decide), i2, if_neg n6, kb, xbI_some, xbI_some, i4, i_and, el, xu_at, xu_ne2 _ _ (Or.inr (by decide)), i2, show nI sn + 1 = nI (sn + 1) from nI_1 _, hA]
  · unfold F_X12_sees
    simp only
    rw [ii et ht p25', xbP_some, if_neg (by decide), ii ec hc p3n', xbP_some, if_neg (by decide), y26', if_neg n6, if_pos (xok_t (by omega) (by decide)), cl_nI (by omega), y26'', if_pos (xok_t (by omega) (by decide)), cl_nI (by omega), y26d, show nI sn + 1 = nI (sn + 1) from nI_1 _, hD, ← hD, xu_at]
  · have hn : ∀ a, a ∉ [83, 90, 110, 111] → hiD a = hi a := by
      intro a ha
      simp only [List.mem_cons, List.not_mem_nil, or_false, not_or] at ha
      rw [← hD, xu_ne _ _ _ ha.2.1, xu_ne _ _ _ ha.2.2.2, xu_ne _ _ _ ha.2.2.1, xu_ne _ _ _ ha.2.1, aI a ha.1]
    have hp : ∀ j, j ∉ [0, 26] → hiD 90 j = hi 90 j := by
      intro j hj
      simp only [List.mem_cons, List.not_mem_nil, or_false, not_or] at hj
      rw [← hD, xu_ne2 _ _ (Or.inr hj.2), xu_ne2 _ _ (Or.inl (by decide)), xu_ne2 _ _ (Or.inl (by decide)), xu_ne2 _ _ (Or.inr hj.1), aI 90 (by decide)]
    have hnl : ∀ a, a ∉ ([] : List Nat) → hl a = hl a := fun _ _ => rfl
    have hpl : hl 90 14 = hl 90 14 := rfl
    have d83 : hiD 83 = hiA 83 := by rw [← hD, xu_ne _ _ _ (by decide), xu_ne _ _ _ (by decide), xu_ne _ _ _ (by decide), xu_ne _ _ _ (by decide)]
    refine ⟨nb, bk, bz, ck, cn, nv, vb, vf, vs, vc, vk, ch, bo, tk, tn, P, nx, G, ln, lp, md, mt, (sn + 1), st', sc', h1.tr (lx hn (by decide)) (hp 1 (by decide)) (lx hnl (by decide)), h2.tr (lx hn (by decide)) (hp 6 (by decide)), h3.tr (hn 85 (by decide)) (hnl 85 (by decide)) (hp 13 (by decide)) hpl, h4.tr (fun a g1 g2 => hn a (by simp <;> omega)) (lx hn (by decide)) (hp 15 (by decide)) (fun a g1 g2 => hnl a (by simp <;> omega)) (hnl 103 (by decide)), h5.tr (lx hn (by decide)) (lx hnl (by decide)), h6.tr (hn 30 (by decide)) (hn 31 (by decide)) (hn 107 (by decide)) (hp 22 (by decide)), h7.tr (lx hn (by decide)), ?_, h9.tr (hn 121 (by decide)) (hn 112 (by decide)) (hp 29 (by decide))⟩
    refine ⟨by omega, ?_, ?_, ?_, fun j hj => ?_, fun j hj => ?_⟩
    · show hiD 83 2 = _
      rw [d83, ← hA, xu_at]
    · show hiD 90 26 = _
      rw [← hD, xu_at]
    · show hiD 83 1 = _
      rw [d83, ← hA, xu_ne2 _ _ (Or.inr (by decide)), xu_at]
    · show hiD 84 j = _
      rw [hn 84 (by decide)]; exact i5 j hj
    · show st' j ≤ 25 ∧ sc' j ≤ 3 ∧ hiD 110 j = _ ∧ hiD 111 j = _
      by_cases e : j = sn
      · subst e
        rw [es.1, es.2, ← hD, xu_ne2 _ _ (Or.inl (by decide)), xu_ne2 _ _ (Or.inl (by decide)), xu_at, xu_ne2 _ _ (Or.inl (by decide)), xu_at]
        exact ⟨by omega, by omega, rfl, rfl⟩
      · obtain ⟨z1, z2, z3, z4⟩ := i6 j (by omega)
        rw [(eo j (by omega)).1, (eo j (by omega)).2, ← hD, xu_ne2 _ _ (Or.inl (by decide)), xu_ne2 _ _ (Or.inl (by decide)), xu_ne2 _ _ (Or.inr e), xu_ne2 _ _ (Or.inl (by decide)), aI 110 (by decide), xu_ne2 _ _ (Or.inl (by decide)), xu_ne2 _ _ (Or.inr e), xu_ne2 _ _ (Or.inl (by decide)), xu_ne2 _ _ (Or.inl (by decide)), aI 111 (by decide)]
        exact ⟨z1, z2, z3, z4⟩
