/-! what a step may come to -/
def CDp (c : Int32) : Prop := c = 0 ∨ ∃ k, k < 7 ∧ c = -4 - nI k
theorem cd_t : ∀ k, k < 7 → ¬ (-4 - nI k = (0 : Int32)) ∧ (-4 : Int32) - (-4 - nI k) = nI k ∧ F_X12_refusalOf (-4 - nI k) = some (nI k) ∧ ¬ ((0 : Int32) ≤ -4 - nI k) := by decide +kernel
theorem cd_tk : ∀ g, g < 13 → ∀ b, b < 9 → (tk1 g b = 0 ∨ ∃ k, k < 7 ∧ tk1 g b = -4 - nI k) := by decide +kernel
theorem cd_hd : ∀ t, t < 11 → ∀ y, y < 9 → ∀ b, b < 13 → (hd1 t y b = 0 ∨ ∃ k, k < 7 ∧ hd1 t y b = -4 - nI k) := by decide +kernel
theorem cd_4 : CDp (-4) := Or.inr ⟨0, by decide, by decide +kernel⟩
theorem cd_8 : CDp (-8) := Or.inr ⟨4, by decide, by decide +kernel⟩
theorem cd_10 : CDp (-10) := Or.inr ⟨6, by decide, by decide +kernel⟩
theorem cd_nt (k : Nat) : CDp (nt k) := by
  unfold nt
  by_cases c : k = 10
  · rw [if_pos c]; exact Or.inr ⟨5, by decide, by decide +kernel⟩
  · rw [if_neg c]
    by_cases d : k = 9 ∨ k = 0
    · rw [if_pos d]; exact Or.inr ⟨3, by decide, by decide +kernel⟩
    · rw [if_neg d]; exact Or.inl rfl
theorem cd_tku : ∀ (L : List Nat) g c, g < 13 → (∀ b, b ∈ L → b < 9) → CDp (tku g c L) := by
  intro L
  induction L with
  | nil => intro g c _ _; exact Or.inl rfl
  | cons b t ih =>
    intro g c hg hL
    have hb := hL b (by simp)
    simp only [tku]
    by_cases e : tk1 g b = 0
    · rw [if_pos e]
      by_cases f : c = true
      · rw [if_pos f]; exact ih b c (by omega) (fun x hx => hL x (by simp [hx]))
      · rw [if_neg f]; exact cd_8
    · rw [if_neg e]; exact cd_tk g hg b hb
theorem cd_hdn : ∀ (L : List Nat) (k : Nat) t y, k < 13 → t < 11 → y < 9 → (∀ b, b ∈ L → b < 9) → CDp (hdn t y (L ++ [k])) := by
  intro L
  induction L with
  | nil =>
    intro k t y hk ht hy _
    simp only [List.nil_append, hdn]
    by_cases e : hd1 t y k = 0
    · rw [if_pos e]; exact Or.inl rfl
    · rw [if_neg e]; exact cd_hd t ht y hy k hk
  | cons b l ih =>
    intro k t y hk ht hy hL
    have hb := hL b (by simp)
    simp only [List.cons_append, hdn]
    by_cases e : hd1 t y b = 0
    · rw [if_pos e]
      refine ih k _ b hk ?_ hb (fun x hx => hL x (by simp [hx]))
      by_cases f : b ≤ 7
      · rw [if_pos f]; omega
      · rw [if_neg f]; exact ht
    · rw [if_neg e]; exact cd_hd t ht y hy b (by omega)
section CODES
variable {hi : Nat → Nat → Int32} {nb nv : Nat} {vb : Nat → Nat} {E : yE} {C : yC}
theorem kl_lt (h : EV nb nv vb E hi) {v : Nat} (hv : v < nv) : ∀ b, b ∈ kl E v → b < 9 := by
  intro b hb
  unfold kl at hb
  obtain ⟨u, hu, rfl⟩ := List.mem_map.mp hb
  have := ch_le h.2 v hv u hu
  have := (h.2.2.2.2 u (by omega)).1.2.1
  omega
theorem cd_rdc (h : EV nb nv vb E hi) {v : Nat} (hv : v < nv) (p : Int) : CDp (rdc E v p) := by
  cases e : pl E v p with
  | none => rw [rdc_n e]; exact cd_4
  | some x => rw [rdc_s e]; exact cd_tku _ _ _ (by have := (ev_b h hv).1; omega) (kl_lt h hv)
theorem cd_wrc (h : EV nb nv vb E hi) {v : Nat} (hv : v < nv) (p : Int) {th y : Nat} (ht : th ≤ 10) (hy : y ≤ 8) : CDp (wrc E v p th y) := by
  cases e : pl E v p with
  | none => rw [wrc_n e]; exact cd_4
  | some x =>
    rw [wrc_s e]
    by_cases c : hdn th y (dl E v) = 0
    · rw [if_pos c]
      by_cases d : inb E v x = true
      · rw [if_pos d]; exact Or.inl rfl
      · rw [if_neg d]; exact cd_8
    · rw [if_neg c]
      exact cd_hdn _ _ _ _ (by have := (ev_b h hv).1; omega) (by omega) (by omega) (fun b hb => kl_lt h hv b (by simpa using hb))
theorem cd_wrt (h : EV nb nv vb E hi) {v : Nat} (hv : v < nv) (p : Int) {x : Nat × Int64} {y : Nat} (hx : x.1 ≤ 10) (hy : y ≤ 8) : CDp (wrt E C v p x y).1 := by
  unfold wrt
  by_cases c : wrc E v p x.1 y = 0
  · rw [if_pos c]; exact Or.inl rfl
  · rw [if_neg c]; exact cd_wrc h hv p hx hy
theorem cd_stp (h : EV nb nv vb E hi) (hO : OKC nb (eBk E) C.1 C.2) {w a b : Nat} (p q : Int) (ha : a < nv) (hb : b < nv) : CDp (stp E C w a p b q).1 := by
  have ak := (ev_v h ha).2.2.2.2.2.2.2.2.2
  have bk := (ev_v h hb).2.2.2.2.2.2.2.2.2
  unfold stp
  by_cases c1 : rdc E a p = 0
  · rw [if_pos c1]
    have hx := (thg_ok h hO ha c1).1
    by_cases c2 : w = 0
    · rw [if_pos c2]; exact cd_wrt h hb q (by omega) ak
    · rw [if_neg c2]
      by_cases c3 : rdc E b q = 0
      · rw [if_pos c3]
        have hz := (thg_ok h hO hb c3).1
        by_cases c4 : w = 4
        · rw [if_pos c4]
          unfold swp
          by_cases c5 : wrc E b q (thg E C a p).1 (eVk E a) = 0
          · rw [if_pos c5]
            by_cases c6 : wrc E a p (thg E C b q).1 (eVk E b) = 0
            · rw [if_pos c6]; exact Or.inl rfl
            · rw [if_neg c6]; exact cd_wrc h ha p (by omega) bk
          · rw [if_neg c5]; exact cd_wrc h hb q (by omega) ak
        · rw [if_neg c4]
          unfold rck
          by_cases n1 : nt (thg E C a p).1 = 0
          · rw [if_pos n1]
            by_cases n2 : nt (thg E C b q).1 = 0
            · rw [if_pos n2]
              have kw := wdr_le (nt_0 (thg_ok h hO ha c1) n1).2 (nt_0 (thg_ok h hO hb c3) n2).2
              by_cases c5 : 4 < wdr (thg E C a p).1 (thg E C b q).1 ∧ b1 (inE (rkn w (wdr (thg E C a p).1 (thg E C b q).1) (rnd (wdr (thg E C a p).1 (thg E C b q).1) (thg E C a p).2) (rnd (wdr (thg E C a p).1 (thg E C b q).1) (thg E C b q).2))) = 0
              · rw [if_pos c5]; exact cd_10
              · rw [if_neg c5]
                refine cd_wrt h hb q (by show wdr _ _ ≤ 10; omega) ?_
                by_cases e8 : eVk E b = 8
                · rw [if_pos e8]; omega
                · rw [if_neg e8]; omega
            · rw [if_neg n2]; exact cd_nt _
          · rw [if_neg n1]; exact cd_nt _
      · rw [if_neg c3]; exact cd_rdc h hb q
  · rw [if_neg c1]; exact cd_rdc h ha p
end CODES
/-! a run -/
def rk (c : Int32) : Nat := (-4 - c).toNatClampNeg
theorem rk_k {k : Nat} (hk : k < 7) : rk (-4 - nI k) = k := by
  unfold rk
  rw [(cd_t k hk).2.1, cl_nI (by omega)]
/-- the step at a line -/
noncomputable def lst (E : yE) (lp : Nat → Nat) (C : yC) (w : yW) : Int32 × yC := stp E C (lp (5 * w.1)) (lp (5 * w.1 + 1)) (plv w (lp (5 * w.1 + 2)) : Int) (lp (5 * w.1 + 3)) (plv w (lp (5 * w.1 + 4)) : Int)
noncomputable def rnA (E : yE) (lp : Nat → Nat) (ln : Nat) (md : Nat → Nat) : Nat → Nat → yW → yC → (Nat → Nat) → Int32 × yC × (Nat → Nat)
  | 0, _, _, C, mt => (0, C, mt)
  | n + 1, t, w, C, mt =>
    if ln ≤ (wS lp ln w).1 then (nI t, C, mt) else if t = 60 then (-11, C, mt)
    else if (lst E lp C (wS lp ln w)).1 = 0 then rnA E lp ln md n (t + 1) ((wS lp ln w).1 + 1, (wS lp ln w).2) (lst E lp C (wS lp ln w)).2 mt
    else if md (rk (lst E lp C (wS lp ln w)).1) = 0 then ((lst E lp C (wS lp ln w)).1, (lst E lp C (wS lp ln w)).2, va_up mt (rk (lst E lp C (wS lp ln w)).1) (mt (rk (lst E lp C (wS lp ln w)).1) + 1))
    else rnA E lp ln md n (t + 1) (if md (rk (lst E lp C (wS lp ln w)).1) = 2 then wLv lp ln ((wS lp ln w).1 + 1, (wS lp ln w).2) else ((wS lp ln w).1 + 1, (wS lp ln w).2)) (lst E lp C (wS lp ln w)).2 (va_up mt (rk (lst E lp C (wS lp ln w)).1) (mt (rk (lst E lp C (wS lp ln w)).1) + 1))
section RUN
variable {r : xRr} {nb nv ln : Nat} {vb : Nat → Nat} {E : yE} {lp md : Nat → Nat}
theorem lst_v (hB : LB nv ln lp) {w : yW} (hw : w.1 < ln) (h5 : lp (5 * w.1) < 5) : lp (5 * w.1) ≤ 4 ∧ lp (5 * w.1 + 1) < nv ∧ lp (5 * w.1 + 3) < nv ∧ lp (5 * w.1 + 2) ≤ 13 ∧ lp (5 * w.1 + 4) ≤ 13 := by
  have := (hB w.1 hw).2.1 h5
  omega
theorem rn_ok {hi : Nat → Nat → Int32} (h : EV nb nv vb E hi) (hB : LB nv ln lp) (h0 : opn lp ln = 0) (h3 : ∀ i, i ≤ ln → opn lp i ≤ 3) (hln : ln ≤ 16) : ∀ n t w C mt, t + n = 61 → t ≤ 60 → WI lp ln w → OKC nb (eBk E) C.1 C.2 → (∀ j, j < 7 → mt j ≤ t) → OKC nb (eBk E) (rnA E lp ln md n t w C mt).2.1.1 (rnA E lp ln md n t w C mt).2.1.2 ∧ ∀ j, j < 7 → (rnA E lp ln md n t w C mt).2.2 j ≤ 60 := by
  intro n
  induction n with
  | zero => intro t w C mt ht h60; omega
  | succ n ih =>
    intro t w C mt ht h60 hW hO hm
    obtain ⟨hS1, hS2⟩ := wS_sp hB h0 h3 hln hW
    unfold rnA
    generalize wS lp ln w = w1 at hS1 hS2
    by_cases c1 : ln ≤ w1.1
    · rw [if_pos c1]; exact ⟨hO, fun j hj => by have : mt j ≤ t := hm j hj; show mt j ≤ 60; omega⟩
    rw [if_neg c1]
    by_cases c2 : t = 60
    · rw [if_pos c2]; exact ⟨hO, fun j hj => by have : mt j ≤ t := hm j hj; show mt j ≤ 60; omega⟩
    rw [if_neg c2]
    have h5 : lp (5 * w1.1) < 5 := by
      rcases hS2 with q | q
      · exact absurd q c1
      · exact q
    obtain ⟨v1, v2, v3, v4, v5⟩ := lst_v hB (w := w1) (by omega) h5
    have hO1 : OKC nb (eBk E) (lst E lp C w1).2.1 (lst E lp C w1).2.2 := stp_ok h hO _ _ v2 v3
    have hW1 := hS1.st hB h0 (by omega) h5
    generalize lst E lp C w1 = q at hO1
    have hm' : ∀ j, j < 7 → va_up mt (rk q.1) (mt (rk q.1) + 1) j ≤ t + 1 := fun j hj => by
      by_cases e : j = rk q.1
      · rw [e, up_at]; rw [e] at hj; have := hm _ hj; omega
      · rw [up_ne e]; have := hm j hj; omega
    by_cases c3 : q.1 = 0
    · rw [if_pos c3]
      exact ih (t + 1) _ q.2 mt (by omega) (by omega) hW1 hO1 (fun j hj => by have := hm j hj; omega)
    rw [if_neg c3]
    by_cases c4 : md (rk q.1) = 0
    · rw [if_pos c4]
      exact ⟨hO1, fun j hj => by have := hm' j hj; show va_up mt (rk q.1) (mt (rk q.1) + 1) j ≤ 60; omega⟩
    rw [if_neg c4]
    refine ih (t + 1) _ q.2 _ (by omega) (by omega) ?_ hO1 hm'
    by_cases c5 : md (rk q.1) = 2
    · rw [if_pos c5]; exact hW1.lv hB h0
    · rw [if_neg c5]; exact hW1
theorem run_c (hB : LB nv ln lp) (h0 : opn lp ln = 0) (h3 : ∀ i, i ≤ ln → opn lp i ≤ 3) (hln : ln ≤ 16) (hmd : ∀ j, j < 7 → md j ≤ 2) : ∀ n k t w C mt hi hl, t + n = 61 → t ≤ 60 → n ≤ k → WI lp ln w → OKC nb (eBk E) C.1 C.2 → EV nb nv vb E hi → CC nb C.1 C.2 hi hl → LR ln lp hi → WC w hi → (∀ j, j < 7 → hi 87 j = nI (md j) ∧ hi 88 j = nI (mt j)) → ∃ hi' hl', F_X11_runThrough_9 k (nI t) hi hl r = some ((rnA E lp ln md n t w C mt).1, hi', hl', r) ∧ CC nb (rnA E lp ln md n t w C mt).2.1.1 (rnA E lp ln md n t w C mt).2.1.2 hi' hl' ∧ (∀ j, j < 7 → hi' 88 j = nI ((rnA E lp ln md n t w C mt).2.2 j)) ∧ (∀ a, a ∉ [3, 15, 16, 33, 34, 35, 88] → hi' a = hi a) ∧ (∀ a, a ∉ [4, 15, 16] → hl' a = hl a) := by
  intro n
  induction n with
  | zero =>
    intro k t w C mt hi hl ht h60 hk hW hO hE hC hL hWC hm
    omega
  | succ n ih =>
    intro k t w C mt hi hl ht h60 hk hW hO hE hC hL hWC hm
    obtain ⟨k, rfl⟩ : ∃ q, k = q + 1 := ⟨k - 1, by omega⟩
    obtain ⟨hS1, hS2⟩ := wS_sp hB h0 h3 hln hW
    obtain ⟨hi1, n1, n2, n3⟩ := nextS_c (hl := hl) (r := r) hB h0 h3 hln hW hWC hL
    unfold rnA
    generalize wS lp ln w = w1 at hS1 hS2 n1 n2
    have hE1 : EV nb nv vb E hi1 := hE.ne n3 (by decide)
    have hC1 : CC nb C.1 C.2 hi1 hl := hC.fr (n3 3 (by decide)) rfl
    have hL1 : LR ln lp hi1 := hL.fr n3 (by decide)
    have hm1 : ∀ j, j < 7 → hi1 87 j = nI (md j) ∧ hi1 88 j = nI (mt j) := fun j hj => by rw [n3 87 (by decide), n3 88 (by decide)]; exact hm j hj
    have e60 : ((60 : Int32) ≤ nI t) = (60 ≤ t) := nI_le' (a := 60) (by decide) (by omega)
    by_cases c1 : ln ≤ w1.1
    · simp only [if_pos c1] at n1 n2 ⊢
      refine ⟨hi1, hl, ?_, hC1, fun j hj => (hm1 j hj).2, fun a ha => n3 a (nD ha (by decide)), fun _ _ => rfl⟩
      unfold F_X11_runThrough_9
      rw [n1, xbI_some, xbI_some, if_pos rfl, if_pos rfl]
      simp only [e60]
      by_cases c : 60 ≤ t
      · rw [if_pos c, show t = 60 by omega]; rfl
      · rw [if_neg c]
    simp only [if_neg c1] at n1 n2 ⊢
    by_cases c2 : t = 60
    · simp only [if_pos c2]
      refine ⟨hi1, hl, ?_, hC1, fun j hj => (hm1 j hj).2, fun a ha => n3 a (nD ha (by decide)), fun _ _ => rfl⟩
      have hle := hS1.1
      unfold F_X11_runThrough_9
      rw [if_pos (by rw [e60]; omega), n1, xbI_some, if_neg (nm20 (by omega))]
    simp only [if_neg c2]
    have h5 : lp (5 * w1.1) < 5 := by
      rcases hS2 with q | q
      · exact absurd q c1
      · exact q
    have hle := hS1.1
    obtain ⟨v1, v2, v3, v4, v5⟩ := lst_v hB (w := w1) (by omega) h5
    have hd : w1.2.1 ≤ 3 := by have := h3 w1.1 hle; rw [hS1.2.1] at this; exact this
    have plv' : ∀ p, plv (w1.1 + 1, w1.2) p = plv w1 p := fun p => rfl
    have P2 := plv_le hB hS1 (lp (5 * w1.1 + 2))
    have P4 := plv_le hB hS1 (lp (5 * w1.1 + 4))
    have k0 := part_c (hl := hl) (r := r) hL1.2 hln (i := w1.1) (j := 0) (by omega) (by omega)
    have k1 := part_c (hl := hl) (r := r) hL1.2 hln (i := w1.1) (j := 1) (by omega) (by omega)
    have k2 := place_w (hl := hl) (r := r) hln hL1 n2 hd (i := w1.1) (j := 2) (by omega) (by omega) v4
    have k3 := part_c (hl := hl) (r := r) hL1.2 hln (i := w1.1) (j := 3) (by omega) (by omega)
    have k4 := place_w (hl := hl) (r := r) hln hL1 n2 hd (i := w1.1) (j := 4) (by omega) (by omega) v5
    rw [show nI 0 = (0 : Int32) from rfl, Nat.add_zero] at k0
    rw [show nI 1 = (1 : Int32) from rfl] at k1
    rw [show nI 2 = (2 : Int32) from rfl, plv'] at k2
    rw [show nI 3 = (3 : Int32) from rfl] at k3
    rw [show nI 4 = (4 : Int32) from rfl, plv'] at k4
    obtain ⟨hi2, hl2, p1, p2, p3, p4⟩ := perform_c (r := r) (C := C) (w := lp (5 * w1.1)) (a := lp (5 * w1.1 + 1)) (p := plv w1 (lp (5 * w1.1 + 2))) (b := lp (5 * w1.1 + 3)) (q := plv w1 (lp (5 * w1.1 + 4))) hE1 hC1 hO v1 v2 (by omega) v3 (by omega)
    change F_X5_perform _ _ _ _ _ hi1 hl r = some ((lst E lp C w1).1, hi2, hl2, r) at p1
    change CC nb (lst E lp C w1).2.1 (lst E lp C w1).2.2 hi2 hl2 at p2
    have hO1 : OKC nb (eBk E) (lst E lp C w1).2.1 (lst E lp C w1).2.2 := stp_ok hE hO _ _ v2 v3
    have hcd : CDp (lst E lp C w1).1 := cd_stp hE hO _ _ v2 v3
    generalize lst E lp C w1 = q at p1 p2 hO1 hcd
    have hW1 := hS1.st hB h0 (by omega) h5
    have hE2 : EV nb nv vb E hi2 := hE1.ne p3 (by decide)
    have hL2 : LR ln lp hi2 := hL1.fr p3 (by decide)
    have hWC2 : WC (w1.1 + 1, w1.2) hi2 := by
      unfold WC at n2 ⊢
      rw [p3 33 (by decide), p3 34 (by decide), p3 35 (by decide)]
      exact n2
    have hm2 : ∀ j, j < 7 → hi2 87 j = nI (md j) ∧ hi2 88 j = nI (mt j) := fun j hj => by rw [p3 87 (by decide), p3 88 (by decide)]; exact hm1 j hj
    have un : F_X11_runThrough_9 (k + 1) (nI t) hi hl r = (if q.1 = 0 then F_X11_runThrough_9 k (nI (t + 1)) hi2 hl2 r else xbP (F_X11_isRefusal ((-4) - q.1)) (fun w22 => if w22 = 0 then F_X11_runThrough_9 k (nI (t + 1)) hi2 hl2 r else if xok ((-4) - q.1) 7 = true then if ((xu hi2 88 (Int32.toNatClampNeg ((-4) - q.1)) ((hi2 88 (Int32.toNatClampNeg ((-4) - q.1))) + 1)) 87 (Int32.toNatClampNeg ((-4) - q.1))) = 0 then some (q.1, (xu hi2 88 (Int32.toNatClampNeg ((-4) - q.1)) ((hi2 88 (Int32.toNatClampNeg ((-4) - q.1))) + 1)), hl2, r) else if ((xu hi2 88 (Int32.toNatClampNeg ((-4) - q.1)) ((hi2 88 (Int32.toNatClampNeg ((-4) - q.1))) + 1)) 87 (Int32.toNatClampNeg ((-4) - q.1))) = 2 then xbV (F_X9_leave (xu hi2 88 (Int32.toNatClampNeg ((-4) - q.1)) ((hi2 88 (Int32.toNatClampNeg ((-4) - q.1))) + 1)) hl2 r) (fun hi28 hl28 r28 => F_X11_runThrough_9 k (nI (t + 1)) hi28 hl28 r28) else F_X11_runThrough_9 k (nI (t + 1)) (xu hi2 88 (Int32.toNatClampNeg ((-4) - q.1)) ((hi2 88 (Int32.toNatClampNeg ((-4) - q.1))) + 1)) hl2 r else none)) := by
      conv => lhs; unfold F_X11_runThrough_9 F_X11_runThrough_146
      rw [if_neg (by rw [e60]; omega), n1, xbI_some, if_neg (nm20 (by omega)), k0, xbI_some, k1, xbI_some, k2, xbI_some, k3, xbI_some, k4, xbI_some, p1, xbI_some, show nI t + 1 = nI (t + 1) from nI_1 t]
    rw [un]
    rcases hcd with c3 | ⟨x, hx, c3⟩
    · simp only [if_pos c3]
      obtain ⟨hi', hl', z1, z2, z3, z4, z5⟩ := ih k (t + 1) (w1.1 + 1, w1.2) q.2 mt hi2 hl2 (by omega) (by omega) (by omega) hW1 hO1 hE2 p2 hL2 hWC2 hm2
      refine ⟨hi', hl', z1, z2, z3, fun a ha => by rw [z4 a ha, p3 a (nD ha (by decide)), n3 a (nD ha (by decide))], fun a ha => by rw [z5 a ha, p4 a ha]⟩
    · obtain ⟨t1, t2, t3, t4⟩ := cd_t x hx
      have nz : ¬ q.1 = 0 := by rw [c3]; exact t1
      have erk : rk q.1 = x := by rw [c3]; exact rk_k hx
      simp only [if_neg nz, erk]
      rw [c3, t2, isRef_i (j := x) (by rw [nI_toInt (by omega)]) hx, xbP_some, if_neg (by decide), if_pos (xok_t hx (by decide)), cl_nI (by omega), xu_ne2 _ _ (Or.inl (by decide)), (hm2 x hx).1, (hm2 x hx).2, show nI (mt x) + 1 = nI (mt x + 1) from nI_1 _, ← c3]
      have hmx := hmd x hx
      have m0 : (nI (md x) = (0 : Int32)) = (md x = 0) := nI_eq' (b := 0) (by omega) (by decide)
      have m2' : (nI (md x) = (2 : Int32)) = (md x = 2) := nI_eq' (b := 2) (by omega) (by decide)
      simp only [m0, m2']
      generalize hG : xu hi2 88 x (nI (mt x + 1)) = hi3
      have f3 : ∀ a, a ≠ 88 → hi3 a = hi2 a := fun a ha => by rw [← hG, xu_ne _ _ _ ha]
      have hm3 : ∀ j, j < 7 → hi3 87 j = nI (md j) ∧ hi3 88 j = nI (va_up mt x (mt x + 1) j) := fun j hj => by
        refine ⟨by rw [f3 87 (by decide)]; exact (hm2 j hj).1, ?_⟩
        by_cases e : j = x
        · subst e; rw [← hG, xu_at, up_at]
        · rw [← hG, xu_ne2 _ _ (Or.inr e), up_ne e]; exact (hm2 j hj).2
      have p2' : CC nb q.2.1 q.2.2 hi3 hl2 := p2.fr (f3 3 (by decide)) rfl
      by_cases c4 : md x = 0
      · simp only [if_pos c4]
        exact ⟨hi3, hl2, rfl, p2', fun j hj => (hm3 j hj).2, fun a ha => by rw [f3 a (nDe ha (by decide)), p3 a (nD ha (by decide)), n3 a (nD ha (by decide))], p4⟩
      simp only [if_neg c4]
      have hE3 : EV nb nv vb E hi3 := hE2.ne (X := [88]) (fun a ha => f3 a (by simpa using ha)) (by decide)
      have hL3 : LR ln lp hi3 := hL2.fr (X := [88]) (fun a ha => f3 a (by simpa using ha)) (by decide)
      have hWC3 : WC (w1.1 + 1, w1.2) hi3 := by
        unfold WC at hWC2 ⊢
        rw [f3 33 (by decide), f3 34 (by decide), f3 35 (by decide)]
        exact hWC2
      by_cases c5 : md x = 2
      · simp only [if_pos c5]
        obtain ⟨hi4, l1, l2, l3⟩ := leave_c (hl := hl2) (r := r) hB h0 h3 hln hL3 hW1 hWC3
        obtain ⟨hi', hl', z1, z2, z3, z4, z5⟩ := ih k (t + 1) (wLv lp ln (w1.1 + 1, w1.2)) q.2 (va_up mt x (mt x + 1)) hi4 hl2 (by omega) (by omega) (by omega) (hW1.lv hB h0) hO1 (hE3.ne l3 (by decide)) (p2'.fr (l3 3 (by decide)) rfl) (hL3.fr l3 (by decide)) l2 (fun j hj => by rw [l3 87 (by decide), l3 88 (by decide)]; exact hm3 j hj)
        refine ⟨hi', hl', ?_, z2, z3, fun a ha => by rw [z4 a ha, l3 a (nD ha (by decide)), f3 a (nDe ha (by decide)), p3 a (nD ha (by decide)), n3 a (nD ha (by decide))], fun a ha => by rw [z5 a ha, p4 a ha]⟩
        rw [l1, xbV_some, z1]
      · simp only [if_neg c5]
        obtain ⟨hi', hl', z1, z2, z3, z4, z5⟩ := ih k (t + 1) (w1.1 + 1, w1.2) q.2 (va_up mt x (mt x + 1)) hi3 hl2 (by omega) (by omega) (by omega) hW1 hO1 hE3 p2' hL3 hWC3 hm3
        exact ⟨hi', hl', z1, z2, z3, fun a ha => by rw [z4 a ha, f3 a (nDe ha (by decide)), p3 a (nD ha (by decide)), n3 a (nD ha (by decide))], fun a ha => by rw [z5 a ha, p4 a ha]⟩
end RUN
