theorem encm_eq2 {a b : Option Nat} (ha : ∀ c, a = some c → c < 72) (hb : ∀ c, b = some c → c < 72) : (encm a = encm b) = (a = b) := by
  apply propext
  cases a with
  | none =>
    cases b with
    | none => exact ⟨fun _ => rfl, fun _ => rfl⟩
    | some y => exact ⟨fun q => absurd q.symm (m1000n (hb y rfl)), fun q => absurd q (by simp)⟩
  | some x =>
    cases b with
    | none => exact ⟨fun q => absurd q (m1000n (ha x rfl)), fun q => absurd q (by simp)⟩
    | some y =>
      have := ha x rfl
      have := hb y rfl
      show (nI x = nI y) ↔ _
      rw [nI_eq (by omega) (by omega)]
      exact ⟨fun q => by rw [q], fun q => Option.some.inj q⟩
section WAVEM
variable {hi0 : Nat → Nat → Int32} {hl : Nat → Nat → Int64} {r : xRr} {nb nv ln : Nat} {vb : Nat → Nat} {vf vs : Nat → Int} {vc vk : Nat → Nat} {ch : Nat → List Nat} {bo : Nat → Nat} {bk bz ck : Nat → Nat} {cn : Nat → Int64} {lp : Nat → Nat}
theorem cellOf_m (h1 : IB nb bk bz ck cn hi0 hl) (h2 : IV nb nv vb vf vs vc vk ch bo hi0) (h6 : ILm nv ln lp hi0) (hpl : plnF lp ln 0) {k : Nat} (hk : k < ln) : F_X12_cellOf (nI k) 1 hi0 hl r = some (encm (lcA vf vs vc ch bo bz lp k), hi0, hl, r) ∧ F_X12_cellOf (nI k) 0 hi0 hl r = some (encm (lcB vf vs vc ch bo bz lp k), hi0, hl, r) := by
  have hln := h6.1
  obtain ⟨p5, p12, p12'⟩ := hpl k (by omega) hk
  obtain ⟨v1, v3, -, -⟩ := (h6.2.2.2 k hk).2.1 p5
  have L := h6.2.2.1
  have a1 := cellAt_me (r := r) h1 h2 v1 (i := lp (5 * k + 2)) (by omega)
  have a2 := cellAt_me (r := r) h1 h2 v3 (i := lp (5 * k + 4)) (by omega)
  unfold F_X12_cellOf F_X12_cellOf_12
  constructor
  · rw [if_neg (by decide), nI_5mul, show nI (5 * k) + 1 = nI (5 * k + 1) from nI_add _ 1, show nI (5 * k + 1) + 1 = nI (5 * k + 2) from nI_add _ 1, if_pos (xok_t (by omega) (by decide)), if_pos (xok_t (by omega) (by decide)), cl_nI (by omega), cl_nI (by omega), L _ (by omega), L _ (by omega), a1, xbI_some]
    rfl
  · rw [if_pos rfl, nI_5mul, show nI (5 * k) + 3 = nI (5 * k + 3) from nI_add _ 3, show nI (5 * k + 3) + 1 = nI (5 * k + 4) from nI_add _ 1, if_pos (xok_t (by omega) (by decide)), if_pos (xok_t (by omega) (by decide)), cl_nI (by omega), cl_nI (by omega), L _ (by omega), L _ (by omega), a2, xbI_some]
    rfl
theorem lc_lt (h1 : IB nb bk bz ck cn hi0 hl) (h2 : IV nb nv vb vf vs vc vk ch bo hi0) (h6 : ILm nv ln lp hi0) (hpl : plnF lp ln 0) {k : Nat} (hk : k < ln) : (∀ x, lcA vf vs vc ch bo bz lp k = some x → x < 72) ∧ (∀ x, lcB vf vs vc ch bo bz lp k = some x → x < 72) :=
  ⟨fun x e => (clo_lt h1 h2 ((h6.2.2.2 k hk).2.1 (hpl k (by omega) hk).1).1 e).1, fun x e => (clo_lt h1 h2 ((h6.2.2.2 k hk).2.1 (hpl k (by omega) hk).1).2.1 e).1⟩
theorem touches_m (h1 : IB nb bk bz ck cn hi0 hl) (h2 : IV nb nv vb vf vs vc vk ch bo hi0) (h6 : ILm nv ln lp hi0) (hpl : plnF lp ln 0) {k : Nat} (hk : k < ln) {c : Option Nat} (hc : ∀ x, c = some x → x < 72) : F_X12_touches (nI k) (encm c) hi0 hl r = some (bI (tch (lcA vf vs vc ch bo bz lp) (lcB vf vs vc ch bo bz lp) k c), hi0, hl, r) := by
  obtain ⟨k1, k2⟩ := cellOf_m (r := r) h1 h2 h6 hpl hk
  obtain ⟨hA, hB⟩ := lc_lt h1 h2 h6 hpl hk
  have z1 := encm_eq2 hA hc
  have z2 := encm_eq2 hB hc
  unfold F_X12_touches F_X12_touches_24 tch
  cases c with
  | none => rw [if_pos (by decide +kernel)]; rfl
  | some x =>
    have := hc x rfl
    have n1 : ¬ encm (some x) < (0 : Int32) := nI_pos (by omega)
    rw [if_neg n1, k1, xbI_some, k2, xbI_some]
    simp only [z1, z2, Option.isSome_some, Bool.true_and]
    by_cases d1 : lcA vf vs vc ch bo bz lp k = some x
    · rw [if_pos d1, decide_eq_true d1, Bool.true_or]; rfl
    · rw [if_neg d1, decide_eq_false d1, Bool.false_or]
      by_cases d2 : lcB vf vs vc ch bo bz lp k = some x
      · rw [if_pos d2, decide_eq_true d2]; rfl
      · rw [if_neg d2, decide_eq_false d2]; rfl
theorem clash_m (h1 : IB nb bk bz ck cn hi0 hl) (h2 : IV nb nv vb vf vs vc vk ch bo hi0) (h6 : ILm nv ln lp hi0) (hpl : plnF lp ln 0) {j k : Nat} (hj : j < ln) (hk : k < ln) : F_X12_clash (nI j) (nI k) hi0 hl r = some (bI (clsh lp (lcA vf vs vc ch bo bz lp) (lcB vf vs vc ch bo bz lp) j k), hi0, hl, r) := by
  have hln := h6.1
  obtain ⟨jA, jB⟩ := cellOf_m (r := r) h1 h2 h6 hpl hj
  obtain ⟨kA, kB⟩ := cellOf_m (r := r) h1 h2 h6 hpl hk
  obtain ⟨ljA, ljB⟩ := lc_lt h1 h2 h6 hpl hj
  obtain ⟨lkA, lkB⟩ := lc_lt h1 h2 h6 hpl hk
  have t1 := touches_m (r := r) h1 h2 h6 hpl hk ljB
  have t2 := touches_m (r := r) h1 h2 h6 hpl hj lkB
  have t3 := touches_m (r := r) h1 h2 h6 hpl hk ljA
  have t4 := touches_m (r := r) h1 h2 h6 hpl hj lkA
  have L := h6.2.2.1
  have pj := hpl j (by omega) hj
  have pk := hpl k (by omega) hk
  have e1 : (nI (lp (5 * j)) = (4 : Int32)) = (lp (5 * j) = 4) := nI_eq' (b := 4) (by omega) (by decide)
  have e2 : (nI (lp (5 * k)) = (4 : Int32)) = (lp (5 * k) = 4) := nI_eq' (b := 4) (by omega) (by decide)
  have last : F_X12_clash_54 (nI j) (nI k) hi0 hl r = some (bI (decide (lp (5 * k) = 4) && tch (lcA vf vs vc ch bo bz lp) (lcB vf vs vc ch bo bz lp) j (lcA vf vs vc ch bo bz lp k)), hi0, hl, r) := by
    unfold F_X12_clash_54 F_X12_clash_80
    rw [nI_5mul, if_pos (xok_t (by omega) (by decide)), cl_nI (by omega), L _ (by omega), kA, xbI_some, t4, xbI_some]
    simp only [e2]
    by_cases d : lp (5 * k) = 4
    · rw [if_pos d, decide_eq_true d, Bool.true_and]
      cases tch (lcA vf vs vc ch bo bz lp) (lcB vf vs vc ch bo bz lp) j (lcA vf vs vc ch bo bz lp k) with
      | true => rw [if_neg (by decide)]; rfl
      | false => rw [show bI false = 0 from rfl, if_pos rfl]
    · rw [if_neg d, decide_eq_false d, Bool.false_and]; rfl
  unfold F_X12_clash F_X12_clash_80
  rw [jB, xbI_some, t1, xbI_some, kB, xbI_some, t2, xbI_some, nI_5mul, if_pos (xok_t (by omega) (by decide)), cl_nI (by omega), L _ (by omega), jA, xbI_some, t3, xbI_some, last]
  simp only [e1]
  unfold clsh chg
  cases tch (lcA vf vs vc ch bo bz lp) (lcB vf vs vc ch bo bz lp) k (lcB vf vs vc ch bo bz lp j) with
  | true => rw [if_neg (by decide), Bool.true_or, Bool.true_or]; rfl
  | false =>
    rw [show bI false = 0 from rfl, if_pos rfl, Bool.false_or]
    cases tch (lcA vf vs vc ch bo bz lp) (lcB vf vs vc ch bo bz lp) j (lcB vf vs vc ch bo bz lp k) with
    | true => rw [if_neg (by decide), Bool.true_or, Bool.or_true]; rfl
    | false =>
      rw [show bI false = 0 from rfl, if_pos rfl, Bool.false_or]
      by_cases d : lp (5 * j) = 4
      · rw [if_pos d, decide_eq_true d, Bool.true_and]
        cases tch (lcA vf vs vc ch bo bz lp) (lcB vf vs vc ch bo bz lp) k (lcA vf vs vc ch bo bz lp j) with
        | true => rw [if_neg (by decide), Bool.true_or]; rfl
        | false => rw [show bI false = 0 from rfl, if_pos rfl, Bool.false_or]
      · rw [if_neg d, decide_eq_false d, Bool.false_and, Bool.false_or]
theorem wavesm_in (h1 : IB nb bk bz ck cn hi0 hl) (h2 : IV nb nv vb vf vs vc vk ch bo hi0) (h6 : ILm nv ln lp hi0) (hpl : plnF lp ln 0) {hx : Nat → Nat → Int32} (hs : scI hi0 hx) {k : Nat} (hk : k < ln) {w : Nat → Nat} (hw : ∀ j, j < k → hx 119 j = nI (w j) ∧ w j ≤ j) (K : Int32 → (Nat → Nat → Int32) → (Nat → Nat → Int64) → xRr → Option xSt) : ∀ d n j, j + d = k → d < n → F_X12_waves_19 K n (nI k) (nI j) (xu hx 119 k (nI (wm (clsh lp (lcA vf vs vc ch bo bz lp) (lcB vf vs vc ch bo bz lp)) w k j))) hl r = K (nI (k + 1)) (xu hx 119 k (nI (wm (clsh lp (lcA vf vs vc ch bo bz lp) (lcB vf vs vc ch bo bz lp)) w k k))) hl r := by
  have hln := h6.1
  intro d
  induction d with
  | zero =>
    intro n j hjd hn
    obtain ⟨n, rfl⟩ : ∃ q, n = q + 1 := ⟨n - 1, by omega⟩
    have e : j = k := by omega
    subst e
    unfold F_X12_waves_19
    rw [if_pos ((nI_leI (by omega) (by omega)).mpr (Nat.le_refl _)), show nI j + 1 = nI (j + 1) from nI_1 j]
  | succ d ih =>
    intro n j hjd hn
    obtain ⟨n, rfl⟩ : ∃ q, n = q + 1 := ⟨n - 1, by omega⟩
    have g : ¬ nI k ≤ nI j := by rw [nI_leI (by omega) (by omega)]; omega
    have wl := wm_le (cl := clsh lp (lcA vf vs vc ch bo bz lp) (lcB vf vs vc ch bo bz lp)) (w := w) (k := k) j (fun i hi9 => (hw i (by omega)).2)
    obtain ⟨w1, w2⟩ := hw j (by omega)
    generalize eacc : wm (clsh lp (lcA vf vs vc ch bo bz lp) (lcB vf vs vc ch bo bz lp)) w k j = acc at wl
    have hs1 : scI hi0 (xu hx 119 k (nI acc)) := hs.trans (scI.u _ _ (by decide))
    have c1 := clash_m (r := r) (h1.sc hs1 scL.rf) (h2.sc hs1) (h6.sc hs1) hpl (j := j) (k := k) (by omega) hk
    have el : (nI (w j) < nI acc) = (w j < acc) := nI_lt' (by omega) (by omega)
    have i1 := ih n (j + 1) (by omega) (by omega)
    simp only [wm, eacc] at i1
    have xj : (xu hx 119 k (nI acc)) 119 j = nI (w j) := by rw [xu_ne2 _ _ (Or.inr (by omega))]; exact w1
    unfold F_X12_waves_19 F_X12_waves_64 F_X12_waves_70
    rw [if_neg g, c1, xbI_some, if_pos (xok_t (by omega) (by decide)), if_pos (xok_t (by omega) (by decide)), if_pos (xok_t (by omega) (by decide)), cl_nI (by omega), cl_nI (by omega), xu_at, xj, show nI j + 1 = nI (j + 1) from nI_1 j, xu_xu, xu_xu, show nI (w j) + 1 = nI (w j + 1) from nI_1 _]
    simp only [el]
    cases dd : clsh lp (lcA vf vs vc ch bo bz lp) (lcB vf vs vc ch bo bz lp) j k with
    | true =>
      rw [dd, if_pos rfl] at i1
      rw [if_neg (by decide)]
      by_cases c : w j < acc
      · rw [Nat.max_eq_left (by omega)] at i1
        rw [if_pos c, if_pos (xok_t (by omega) (by decide)), i1]
      · rw [Nat.max_eq_right (by omega)] at i1
        rw [if_neg c, if_pos (xok_t (by omega) (by decide)), if_pos (xok_t (by omega) (by decide)), i1]
    | false =>
      rw [dd, if_neg (by decide)] at i1
      rw [show bI false = 0 from rfl, if_pos rfl, i1]
theorem wavesm_out (h1 : IB nb bk bz ck cn hi0 hl) (h2 : IV nb nv vb vf vs vc vk ch bo hi0) (h6 : ILm nv ln lp hi0) (hpl : plnF lp ln 0) : ∀ d n k w hi, k + d = ln → d < n → scI hi0 hi → (∀ j, j < k → hi 119 j = nI (w j)) → isW (clsh lp (lcA vf vs vc ch bo bz lp) (lcB vf vs vc ch bo bz lp)) w k → ∃ hi' w', F_X12_waves_2 n (nI k) hi hl r = some (hi', hl, r) ∧ scI hi0 hi' ∧ (∀ j, j < ln → hi' 119 j = nI (w' j)) ∧ isW (clsh lp (lcA vf vs vc ch bo bz lp) (lcB vf vs vc ch bo bz lp)) w' ln ∧ (∀ a, a ≠ 119 → hi' a = hi a) := by
  have hln := h6.1
  intro d
  induction d with
  | zero =>
    intro n k w hi hkd hn hs hr hw
    obtain ⟨n, rfl⟩ : ∃ q, n = q + 1 := ⟨n - 1, by omega⟩
    have e : k = ln := by omega
    subst e
    refine ⟨hi, w, ?_, hs, hr, hw, fun _ _ => rfl⟩
    unfold F_X12_waves_2
    rw [(h6.sc hs).2.1, if_pos ((nI_leI (by omega) (by omega)).mpr (Nat.le_refl _))]
  | succ d ih =>
    intro n k w hi hkd hn hs hr hw
    obtain ⟨n, rfl⟩ : ∃ q, n = q + 1 := ⟨n - 1, by omega⟩
    have g : ¬ nI ln ≤ nI k := by rw [nI_leI (by omega) (by omega)]; omega
    have hk : k < ln := by omega
    have wle := isW_le hw
    have fi := wavesm_in (r := r) h1 h2 h6 hpl hs hk (w := w) (fun j hj => ⟨hr j hj, wle j hj⟩) (F_X12_waves_2 n) k 1000000 0 (by omega) (by omega)
    rw [show nI 0 = (0 : Int32) from rfl, show wm (clsh lp (lcA vf vs vc ch bo bz lp) (lcB vf vs vc ch bo bz lp)) w k 0 = 0 from rfl, show nI 0 = (0 : Int32) from rfl] at fi
    obtain ⟨hi', w', z1, z2, z3, z4, z5⟩ := ih n (k + 1) (fun i => if i = k then wm (clsh lp (lcA vf vs vc ch bo bz lp) (lcB vf vs vc ch bo bz lp)) w k k else w i) (xu hi 119 k (nI (wm (clsh lp (lcA vf vs vc ch bo bz lp) (lcB vf vs vc ch bo bz lp)) w k k))) (by omega) (by omega) (hs.trans (scI.u _ _ (by decide))) (fun j hj => by
      by_cases e : j = k
      · subst e
        rw [xu_at]
        simp only [if_true]
      · rw [xu_ne2 _ _ (Or.inr e)]
        simp only [if_neg e]
        exact hr j (by omega)) (isW_s hw)
    refine ⟨hi', w', ?_, z2, z3, z4, fun a ha => by rw [z5 a ha, xu_ne _ _ _ ha]⟩
    unfold F_X12_waves_2
    rw [(h6.sc hs).2.1, if_neg g, if_pos (xok_t (by omega) (by decide)), cl_nI (by omega), fi, z1]
end WAVEM
theorem op_wave (a0 : Int32) : xOpI xInv (F_X11_wave a0) (F_X12_wave a0) := by
  intro hi hl r h
  have h0 := h
  obtain ⟨nb, bk, bz, ck, cn, nv, vb, vf, vs, vc, vk, ch, bo, tk, tn, P, nx, G, ln, lp, md, mt, sn, st, sc, h1, h2, h3, h4, h5, h6, h7, h8, h9⟩ := h
  have n8 := h2.1
  have hln := h6.1
  have y22 : (xu hi 90 0 (0 : Int32)) 90 22 = nI ln := by rw [xu_ne2 _ _ (Or.inr (by decide))]; exact h6.2.2.1
  rcases (rng a0 (n := ln) (by omega)).symm with hbad | ⟨k, hk, rfl, ek⟩
  · refine ⟨-1, (hi, hl, r), (xu hi 90 0 0, hl, r), ?_, ?_, h0.th⟩
    · unfold F_X11_wave
      rw [lhas_o h6.2.1 hln hbad, xbI_some, if_pos rfl]
    · unfold F_X12_wave
      simp only
      rw [y22, io hbad (nI_m1 (by omega)), xbP_some, if_pos rfl]
  have tc := turn_c (hl := hl) (r := r) h6 n8 ln 1000000 0 (by omega) (by omega)
  rw [show nI 0 = (0 : Int32) from rfl] at tc
  by_cases hpl : plnF lp ln 0
  · rw [b1_f (fun q => q hpl)] at tc
    obtain ⟨hi1, w1, f1, f2, f3, f4⟩ := find_out (r := r) h1 h2 h6 hpl ln 1000000 0 (fun _ => 0) hi (by omega) (by omega) scI.rf (fun j hj => by omega) (fun j hj => by omega)
    rw [show nI 0 = (0 : Int32) from rfl] at f1
    have s1 : scI hi (xu hi1 90 0 0) := f2.trans (scI.p _ (by decide))
    have pm := plain_m (hl := hl) (r := r) (h6.m.sc s1) n8 ln 1000000 0 True (by omega) (by omega)
    rw [show nI 0 = (0 : Int32) from rfl, b1_t trivial, b1_t ⟨trivial, hpl⟩] at pm
    obtain ⟨hi2, w2, g1, g2, g3, g4, -⟩ := wavesm_out (r := r) h1 h2 h6.m hpl ln 1000000 0 (fun _ => 0) (xu hi1 90 0 0) (by omega) (by omega) s1 (fun j hj => by omega) (fun j hj => by omega)
    rw [show nI 0 = (0 : Int32) from rfl] at g1
    refine ⟨nI (w1 k), (hi1, hl, r), (hi2, hl, r), ?_, ?_, h0.sc g2 scL.rf⟩
    · unfold F_X11_wave F_X4_turnAnywhere F_X10_find F_X10_waveOf
      rw [lhas_i h6.2.1 hln hk, xbI_some, if_neg (by decide), tc, xbI_some, if_pos rfl, f1, xbV_some, if_pos (xok_t (by omega) (by decide)), cl_nI (by omega), f3 k hk, xbI_some]
    · show F_X12_wave (nI k) hi1 hl r = _
      have y22' : (xu hi1 90 0 (0 : Int32)) 90 22 = nI ln := (h6.sc s1).2.2.1
      unfold F_X12_wave F_X12_isPlain F_X12_waves
      rw [y22', ii ek hk (nI_m1 (by omega)), xbP_some, if_neg (by decide), pm, xbI_some, if_neg (by decide), g1, xbV_some, if_pos (xok_t (by omega) (by decide)), cl_nI (by omega), g3 k hk, isW_u f4 g4 k hk]
  · rw [b1_t hpl] at tc
    have pm := plain_m (hl := hl) (r := r) (h6.m.sc (scI.p (hi := hi) (0 : Int32) (show 0 ∉ [1, 6, 13, 15, 22, 26, 29] by decide))) n8 ln 1000000 0 True (by omega) (by omega)
    rw [show nI 0 = (0 : Int32) from rfl, b1_t trivial, b1_f (fun q => hpl q.2)] at pm
    refine ⟨-2, (hi, hl, r), (xu hi 90 0 0, hl, r), ?_, ?_, h0.th⟩
    · unfold F_X11_wave F_X4_turnAnywhere
      rw [lhas_i h6.2.1 hln hk, xbI_some, if_neg (by decide), tc, xbI_some, if_neg (by decide)]
    · unfold F_X12_wave F_X12_isPlain
      simp only
      rw [y22, ii ek hk (nI_m1 (by omega)), xbP_some, if_neg (by decide), pm, xbI_some, if_pos rfl]
