/-! going through lines: the reference -/
section WALKM
variable {hl : Nat → Nat → Int64} {r : xRr} {nv ln : Nat} {lp : Nat → Nat}
theorem behind_m {hi : Nat → Nat → Int32} (h0 : opn lp ln = 0) (hln : ln ≤ 16) (hL : ILm nv ln lp hi) {s : Nat} (hs : s < ln) (h5 : lp (5 * s) = 5) : F_X12_behind (nI s) hi hl r = some (nI (bh lp ln s), hi, hl, r) := by
  have hB := hL.2.2.2
  obtain ⟨b1, b2, b3, b4, b5⟩ := bh_sp hB h0 hs h5
  have key : ∀ d n x, x + d = bh lp ln s → s < x → d < n → F_X12_behind_6 n (nI (opn lp x - opn lp s)) (nI x) hi hl r = some (nI (bh lp ln s), hi, hl, r) := by
    intro d
    induction d with
    | zero =>
      intro n x hxd hsx hn
      obtain ⟨n, rfl⟩ : ∃ q, n = q + 1 := ⟨n - 1, by omega⟩
      have ex : x = bh lp ln s := by omega
      subst ex
      unfold F_X12_behind_6
      rw [b3, Nat.sub_self, if_pos (by decide)]
    | succ d ih =>
      intro n x hxd hsx hn
      obtain ⟨n, rfl⟩ : ∃ q, n = q + 1 := ⟨n - 1, by omega⟩
      have gx := b4 x hsx (by omega)
      have o1 := opn_16 (lp := lp) x
      have g : ¬ nI (opn lp x - opn lp s) ≤ (0 : Int32) := by rw [show (0 : Int32) = nI 0 from rfl, nI_leI (by omega) (by omega)]; omega
      have l6 := (hB x (by omega)).1
      have q0 := hL.2.2.1 (5 * x) (by omega)
      have e5 : (nI (lp (5 * x)) = (5 : Int32)) = (lp (5 * x) = 5) := nI_eq' (b := 5) (by omega) (by decide)
      have e6 : (nI (lp (5 * x)) = (6 : Int32)) = (lp (5 * x) = 6) := nI_eq' (b := 6) (by omega) (by decide)
      have i1 := ih n (x + 1) (by omega) (by omega) (by omega)
      rw [opn_s] at i1
      unfold F_X12_behind_6 F_X12_behind_45
      rw [if_neg g, nI_5mul, if_pos (xok_t (by omega) (by decide)), cl_nI (by omega), q0, show nI x + 1 = nI (x + 1) from nI_1 x]
      simp only [e5, e6]
      by_cases c5 : lp (5 * x) = 5
      · rw [if_pos c5] at i1 ⊢
        rw [show nI (opn lp x - opn lp s) + 1 = nI (opn lp x - opn lp s + 1) from nI_1 _, ← i1, show opn lp x - opn lp s + 1 = opn lp x + 1 - opn lp s by omega]
      · rw [if_neg c5] at i1 ⊢
        by_cases c6 : lp (5 * x) = 6
        · rw [if_pos c6] at i1 ⊢
          rw [nI_p1 (by omega) (by omega), ← i1, show opn lp x - opn lp s - 1 = opn lp x - 1 - opn lp s by omega]
        · rw [if_neg c6] at i1 ⊢
          rw [show nI (opn lp x - opn lp s) + 0 = nI (opn lp x - opn lp s + 0) from nI_add _ 0, Nat.add_zero, i1]
  have k := key (bh lp ln s - (s + 1)) 1000000 (s + 1) (by omega) (by omega) (by omega)
  rw [opn_s, if_pos h5, Nat.add_sub_cancel_left] at k
  unfold F_X12_behind
  rw [show nI s + 1 = nI (s + 1) from nI_1 s]
  exact k
theorem ILm.w {hi hi' : Nat → Nat → Int32} (h : ILm nv ln lp hi) (h1 : hi' 107 = hi 107) (h2 : hi' 90 22 = hi 90 22) : ILm nv ln lp hi' := ⟨h.1, by rw [h2]; exact h.2.1, by rw [h1]; exact h.2.2.1, h.2.2.2⟩
/-- what the walk changes -/
def mW (hi hi' : Nat → Nat → Int32) : Prop := (∀ a, a ∉ [90, 117, 118] → hi' a = hi a) ∧ ∀ j, j ∉ [38, 39] → hi' 90 j = hi 90 j
theorem mW.rf {hi : Nat → Nat → Int32} : mW hi hi := ⟨fun _ _ => rfl, fun _ _ => rfl⟩
theorem mW.trans {h1 h2 h3 : Nat → Nat → Int32} (a : mW h1 h2) (b : mW h2 h3) : mW h1 h3 := ⟨fun x p => (b.1 x p).trans (a.1 x p), fun j p => (b.2 j p).trans (a.2 j p)⟩
theorem mW.a {hi : Nat → Nat → Int32} (v : Int32) : mW hi (xu hi 90 38 v) := ⟨fun a ha => xu_ne _ _ _ (nDe ha (by decide)), fun j hj => xu_ne2 _ _ (Or.inr (nDe hj (by decide)))⟩
theorem mW.d {hi : Nat → Nat → Int32} (v : Int32) : mW hi (xu hi 90 39 v) := ⟨fun a ha => xu_ne _ _ _ (nDe ha (by decide)), fun j hj => xu_ne2 _ _ (Or.inr (nDe hj (by decide)))⟩
theorem mW.s {hi : Nat → Nat → Int32} (j : Nat) (v : Int32) : mW hi (xu hi 117 j v) := ⟨fun a ha => xu_ne _ _ _ (nDe ha (by decide)), fun j hj => xu_ne2 _ _ (Or.inl (by decide))⟩
theorem mW.t {hi : Nat → Nat → Int32} (j : Nat) (v : Int32) : mW hi (xu hi 118 j v) := ⟨fun a ha => xu_ne _ _ _ (nDe ha (by decide)), fun j hj => xu_ne2 _ _ (Or.inl (by decide))⟩
theorem ILm.mw {hi hi' : Nat → Nat → Int32} (h : ILm nv ln lp hi) (a : mW hi hi') : ILm nv ln lp hi' := h.w (a.1 107 (by decide)) (a.2 22 (by decide))
theorem pass_m {hi : Nat → Nat → Int32} (h0 : opn lp ln = 0) (h3 : ∀ i, i ≤ ln → opn lp i ≤ 3) (hL : ILm nv ln lp hi) {w : yW} (hW : WI lp ln w) (hC : WM w hi) (hw : w.1 < ln) (hl5 : ¬ lp (5 * w.1) < 5) (n : Nat) : ∃ hi', F_X12_isStep_0 (n + 1) hi hl r = F_X12_isStep_0 n hi' hl r ∧ WM (wNx lp ln w) hi' ∧ mW hi hi' := by
  have hB := hL.2.2.2
  have hln := hL.1
  obtain ⟨at', d, S, T⟩ := w
  obtain ⟨a1, a2, a3⟩ := hW
  obtain ⟨c1, c2, c3⟩ := hC
  simp only at a1 a2 a3 hw hl5 c1 c2 c3
  have l6 := (hB at' hw).1
  have hd := h3 at' a1
  rw [a2] at hd
  have g2 : ¬ nI ln ≤ nI at' := by rw [nI_leI (by omega) (by omega)]; omega
  have q0 := hL.2.2.1 (5 * at') (by omega)
  have q1 := hL.2.2.1 (5 * at' + 1) (by omega)
  have g3 : ¬ nI (lp (5 * at')) ≤ (4 : Int32) := by rw [show (4 : Int32) = nI 4 from rfl, nI_leI (by omega) (by decide)]; omega
  have e6 : (nI (lp (5 * at')) = (6 : Int32)) = (lp (5 * at') = 6) := nI_eq' (b := 6) (by omega) (by decide)
  unfold wNx
  simp only
  by_cases c5 : lp (5 * at') = 5
  · have l9 := ((hB at' hw).2.2.1 c5).1
    have e0 : (nI (lp (5 * at' + 1)) = (0 : Int32)) = (lp (5 * at' + 1) = 0) := nI_eq' (b := 0) (by omega) (by decide)
    obtain ⟨b1, b2, b3, b4, b5⟩ := bh_sp hB h0 hw c5
    rw [if_pos c5]
    by_cases cz : lp (5 * at' + 1) = 0
    · simp only [if_pos cz]
      refine ⟨xu hi 90 38 (nI (bh lp ln at')), ?_, ⟨xu_at _ _ _ _, by rw [xu_ne2 _ _ (Or.inr (by decide))]; exact c2, fun i hi9 => by rw [xu_ne2 _ _ (Or.inl (by decide)), xu_ne2 _ _ (Or.inl (by decide))]; exact c3 i hi9⟩, mW.a _⟩
      conv => lhs; unfold F_X12_isStep_0
      rw [hL.2.1, c1, if_neg g2, nI_5mul, if_pos (xok_t (by omega) (by decide)), cl_nI (by omega), q0, if_neg g3, if_neg (by rw [e6]; omega), show nI (5 * at') + 1 = nI (5 * at' + 1) from nI_1 _, if_pos (xok_t (by omega) (by decide)), cl_nI (by omega), q1, if_pos (by rw [e0]; exact cz), behind_m h0 hln hL hw c5, xbI_some]
    · simp only [if_neg cz]
      have hd1 := h3 (at' + 1) (by omega)
      rw [opn_s, if_pos c5, a2] at hd1
      refine ⟨xu (xu (xu (xu hi 117 d (nI at')) 118 d 0) 90 39 (nI (d + 1))) 90 38 (nI (at' + 1)), ?_, ⟨xu_at _ _ _ _, by rw [xu_ne2 _ _ (Or.inr (by decide)), xu_at], fun i hi9 => ?_⟩, (((mW.s _ _).trans (mW.t _ _)).trans (mW.d _)).trans (mW.a _)⟩
      · conv => lhs; unfold F_X12_isStep_0
        rw [hL.2.1, c1, if_neg g2, nI_5mul, if_pos (xok_t (by omega) (by decide)), cl_nI (by omega), q0, if_neg g3, if_neg (by rw [e6]; omega), show nI (5 * at') + 1 = nI (5 * at' + 1) from nI_1 _, if_pos (xok_t (by omega) (by decide)), cl_nI (by omega), q1, if_neg (by rw [e0]; exact cz), c2, if_pos (xok_t (by omega) (by decide)), cl_nI (by omega), xu_ne2 hi _ (Or.inl (by decide)), c2, if_pos (xok_t (by omega) (by decide)), cl_nI (by omega), xu_ne2 (xu hi 117 d (nI at')) _ (Or.inl (by decide)), xu_ne2 hi _ (Or.inl (by decide)), c2, show nI d + 1 = nI (d + 1) from nI_1 d, xu_ne2 (xu (xu hi 117 d (nI at')) 118 d 0) _ (Or.inr (by decide)), xu_ne2 (xu hi 117 d (nI at')) _ (Or.inl (by decide)), xu_ne2 hi _ (Or.inl (by decide)), c1, show nI at' + 1 = nI (at' + 1) from nI_1 at']
      · have hi9' : i < d + 1 := hi9
        show _ = nI (va_up S d at' i) ∧ _ = nI (va_up T d 0 i)
        constructor
        · rw [xu_ne2 _ _ (Or.inl (by decide)), xu_ne2 _ _ (Or.inl (by decide)), xu_ne2 _ _ (Or.inl (by decide))]
          by_cases e : i = d
          · subst e
            rw [xu_at, up_at]
          · rw [xu_ne2 _ _ (Or.inr e), up_ne e]
            exact (c3 i (by omega)).1
        · rw [xu_ne2 _ _ (Or.inl (by decide)), xu_ne2 _ _ (Or.inl (by decide))]
          by_cases e : i = d
          · subst e
            rw [xu_at, up_at]
            rfl
          · rw [xu_ne2 _ _ (Or.inr e), xu_ne2 _ _ (Or.inl (by decide)), up_ne e]
            exact (c3 i (by omega)).2
  · have c6 : lp (5 * at') = 6 := by omega
    rw [if_neg c5]
    have dp := ((hB at' hw).2.2.2 c6).1
    rw [a2] at dp
    obtain ⟨d, rfl⟩ : ∃ q, d = q + 1 := ⟨d - 1, by omega⟩
    rw [Nat.add_sub_cancel]
    obtain ⟨z1, z2, z3, z4, z5⟩ := a3 d (by omega)
    obtain ⟨f1, f2⟩ := c3 d (by omega)
    have l9 := ((hB (S d) (by omega)).2.2.1 z2).1
    generalize hG : xu hi 118 d (nI (T d + 1)) = hiG
    have fG : ∀ a, a ≠ 118 → hiG a = hi a := fun a ha => by rw [← hG, xu_ne _ _ _ ha]
    have el : (nI (lp (5 * S d + 1)) ≤ nI (T d + 1)) = (lp (5 * S d + 1) ≤ T d + 1) := nI_le' (by omega) (by omega)
    have c2' : hiG 90 39 = nI (d + 1) := by rw [fG 90 (by decide)]; exact c2
    have f2' : hiG 118 d = nI (T d + 1) := by rw [← hG, xu_at]
    have c1' : hiG 90 38 = nI at' := by rw [fG 90 (by decide)]; exact c1
    have qs : hiG 107 (5 * S d + 1) = nI (lp (5 * S d + 1)) := by rw [fG 107 (by decide)]; exact hL.2.2.1 _ (by omega)
    have mG : mW hi hiG := by rw [← hG]; exact mW.t _ _
    have un : F_X12_isStep_0 (n + 1) hi hl r = if lp (5 * S d + 1) ≤ T d + 1 then F_X12_isStep_98 (F_X12_isStep_0 n) (nI (S d)) 0 hiG hl r else F_X12_isStep_98 (F_X12_isStep_0 n) (nI (S d)) 1 hiG hl r := by
      conv => lhs; unfold F_X12_isStep_0
      rw [hL.2.1, c1, if_neg g2, nI_5mul, if_pos (xok_t (by omega) (by decide)), cl_nI (by omega), q0, if_neg g3, if_pos (by rw [e6]; exact c6), c2, nI_s1 (by omega), if_pos (xok_t (by omega) (by decide)), cl_nI (by omega), f1, f2, show nI (T d) + 1 = nI (T d + 1) from nI_1 _, hG, c2', nI_s1 (by omega), if_pos (xok_t (by omega) (by decide)), cl_nI (by omega), nI_5mul, show nI (5 * S d) + 1 = nI (5 * S d + 1) from nI_1 _, if_pos (xok_t (by omega) (by decide)), cl_nI (by omega), qs, f2']
      simp only [el]
    rw [un]
    unfold F_X12_isStep_98 F_X12_isStep_113 F_X12_isStep_134
    by_cases ct : T d + 1 < lp (5 * S d + 1)
    · rw [if_pos ct, if_neg (show ¬ lp (5 * S d + 1) ≤ T d + 1 by omega), if_neg (by decide), if_neg (by decide), c2', show nI (d + 1) - 0 = nI (d + 1) from by simp, show nI (S d) + 1 = nI (S d + 1) from nI_1 _]
      refine ⟨_, rfl, ⟨xu_at _ _ _ _, by rw [xu_ne2 _ _ (Or.inr (by decide)), xu_at], fun i hi9 => ?_⟩, (mG.trans (mW.d _)).trans (mW.a _)⟩
      have hi9' : i < d + 1 := hi9
      show _ = nI (S i) ∧ _ = nI (va_up T d (T d + 1) i)
      rw [xu_ne2 _ _ (Or.inl (by decide)), xu_ne2 _ _ (Or.inl (by decide)), xu_ne2 _ _ (Or.inl (by decide)), xu_ne2 _ _ (Or.inl (by decide))]
      by_cases e : i = d
      · subst e
        rw [up_at, fG 117 (by decide)]
        exact ⟨f1, f2'⟩
      · rw [up_ne e, fG 117 (by decide), ← hG, xu_ne2 _ _ (Or.inr e)]
        exact c3 i hi9'
    · rw [if_neg ct, if_pos (show lp (5 * S d + 1) ≤ T d + 1 by omega), if_pos rfl, if_pos rfl, c2', nI_s1 (by omega), xu_ne2 _ _ (Or.inr (by decide)), c1', show nI at' + 1 = nI (at' + 1) from nI_1 _]
      refine ⟨_, rfl, ⟨xu_at _ _ _ _, by rw [xu_ne2 _ _ (Or.inr (by decide)), xu_at], fun i hi9 => ?_⟩, (mG.trans (mW.d _)).trans (mW.a _)⟩
      have hi9' : i < d := hi9
      show _ = nI (S i) ∧ _ = nI (va_up T d (T d + 1) i)
      rw [xu_ne2 _ _ (Or.inl (by decide)), xu_ne2 _ _ (Or.inl (by decide)), xu_ne2 _ _ (Or.inl (by decide)), xu_ne2 _ _ (Or.inl (by decide)), up_ne (by omega), fG 117 (by decide), ← hG, xu_ne2 _ _ (Or.inr (by omega))]
      exact c3 i (by omega)
theorem next_m (h0 : opn lp ln = 0) (h3 : ∀ i, i ≤ ln → opn lp i ≤ 3) : ∀ k w hi n, WI lp ln w → wPhi lp ln w < k → k ≤ n → WM w hi → ILm nv ln lp hi → ∃ hi', F_X12_isStep_0 n hi hl r = (if ln ≤ (wGo lp ln k w).1 then some (0, hi', hl, r) else some (1, hi', hl, r)) ∧ WM (wGo lp ln k w) hi' ∧ mW hi hi' := by
  intro k
  induction k with
  | zero => intro w hi n _ h; omega
  | succ k ih =>
    intro w hi n hW hp hn hC hL
    obtain ⟨n, rfl⟩ : ∃ q, n = q + 1 := ⟨n - 1, by omega⟩
    have hB := hL.2.2.2
    have hln := hL.1
    unfold wGo
    by_cases cs : ln ≤ w.1 ∨ lp (5 * w.1) < 5
    · simp only [if_pos cs]
      have hle := hW.1
      by_cases ce : ln ≤ w.1
      · simp only [if_pos ce]
        refine ⟨hi, ?_, hC, mW.rf⟩
        have gg : nI ln ≤ nI w.1 := (nI_leI (by omega) (by omega)).mpr ce
        unfold F_X12_isStep_0 F_X12_isStep_217
        rw [hL.2.1, hC.1, if_pos gg, if_pos gg]
      · simp only [if_neg ce]
        have c5 : lp (5 * w.1) < 5 := by
          rcases cs with q | q
          · exact absurd q ce
          · exact q
        have g2 : ¬ nI ln ≤ nI w.1 := by rw [nI_leI (by omega) (by omega)]; omega
        have q0 := hL.2.2.1 (5 * w.1) (by omega)
        have g3 : nI (lp (5 * w.1)) ≤ (4 : Int32) := by rw [show (4 : Int32) = nI 4 from rfl, nI_leI (by omega) (by decide)]; omega
        refine ⟨hi, ?_, hC, mW.rf⟩
        unfold F_X12_isStep_0 F_X12_isStep_217
        rw [hL.2.1, hC.1, if_neg g2, nI_5mul, if_pos (xok_t (by omega) (by decide)), cl_nI (by omega), q0, if_pos g3, if_neg g2]
    · simp only [if_neg cs]
      simp only [not_or] at cs
      obtain ⟨hi1, q1, q2, q3⟩ := pass_m (hl := hl) (r := r) h0 h3 hL hW hC (by omega) cs.2 n
      have := wPhi_lt hB h0 h3 hW (by omega) cs.2
      obtain ⟨hi', z1, z2, z3⟩ := ih (wNx lp ln w) hi1 n (hW.nx hB h0 (by omega) cs.2) (by omega) (by omega) q2 (hL.mw q3)
      exact ⟨hi', q1.trans z1, z2, q3.trans z3⟩
theorem nextS_m (h0 : opn lp ln = 0) (h3 : ∀ i, i ≤ ln → opn lp i ≤ 3) {w : yW} {hi : Nat → Nat → Int32} (hW : WI lp ln w) (hC : WM w hi) (hL : ILm nv ln lp hi) : ∃ hi', F_X12_isStep hi hl r = (if ln ≤ (wS lp ln w).1 then some (0, hi', hl, r) else some (1, hi', hl, r)) ∧ WM (wS lp ln w) hi' ∧ mW hi hi' :=
  next_m h0 h3 50001 w hi 1000000 hW (by have := wPhi_le hL.2.2.2 h0 h3 hL.1 hW; omega) (by omega) hC hL
theorem leave_m {hi : Nat → Nat → Int32} (h0 : opn lp ln = 0) (h3 : ∀ i, i ≤ ln → opn lp i ≤ 3) (hL : ILm nv ln lp hi) {w : yW} (hW : WI lp ln w) (hC : WM w hi) : ∃ hi', F_X12_leaves hi hl r = some (hi', hl, r) ∧ WM (wLv lp ln w) hi' ∧ mW hi hi' := by
  have hB := hL.2.2.2
  have hln := hL.1
  obtain ⟨at', d, S, T⟩ := w
  obtain ⟨a1, a2, a3⟩ := hW
  obtain ⟨c1, c2, c3⟩ := hC
  simp only at a1 a2 a3 c1 c2 c3
  have hd := h3 at' a1
  rw [a2] at hd
  have e0 : (nI d = (0 : Int32)) = (d = 0) := nI_eq' (b := 0) (by omega) (by decide)
  unfold F_X12_leaves wLv
  rw [c2]
  simp only [e0]
  by_cases c : d = 0
  · simp only [if_pos c]
    rw [hL.2.1]
    exact ⟨_, rfl, ⟨xu_at _ _ _ _, by rw [xu_ne2 _ _ (Or.inr (by decide))]; exact c2, fun i hi9 => by have : i < d := hi9; omega⟩, mW.a _⟩
  · obtain ⟨d, rfl⟩ : ∃ q, d = q + 1 := ⟨d - 1, by omega⟩
    obtain ⟨z1, z2, z3, z4, z5⟩ := a3 d (by omega)
    simp only [if_neg c, Nat.add_sub_cancel]
    generalize hG : xu hi 90 39 (nI d) = hiG
    have fG : ∀ a, a ≠ 90 → hiG a = hi a := fun a ha => by rw [← hG, xu_ne _ _ _ ha]
    have mG : mW hi hiG := by rw [← hG]; exact mW.d _
    have ke := behind_m (hi := hiG) (hl := hl) (r := r) h0 hln (hL.mw mG) (s := S d) (by omega) z2
    rw [nI_s1 (by omega), hG, show hiG 90 39 = nI d by rw [← hG, xu_at], if_pos (xok_t (by omega) (by decide)), cl_nI (by omega), fG 117 (by decide), (c3 d (by omega)).1, ke, xbI_some]
    refine ⟨_, rfl, ⟨xu_at _ _ _ _, by rw [xu_ne2 _ _ (Or.inr (by decide)), ← hG, xu_at], fun i hi9 => ?_⟩, mG.trans (mW.a _)⟩
    have hi9' : i < d := hi9
    rw [xu_ne2 _ _ (Or.inl (by decide)), xu_ne2 _ _ (Or.inl (by decide)), fG 117 (by decide), fG 118 (by decide)]
    exact c3 i (by omega)
theorem placeNow_m {hi : Nat → Nat → Int32} {w : yW} (hC : WM w hi) (hd : w.2.1 ≤ 3) {p : Nat} (hp : p ≤ 13) : F_X12_placeNow (nI p) hi hl r = some (nI (plv w p), hi, hl, r) := by
  unfold F_X12_placeNow plv
  rw [hC.2.1]
  have e12 : ((12 : Int32) ≤ nI p) = (12 ≤ p) := nI_le' (a := 12) (by decide) (by omega)
  simp only [e12]
  by_cases c : p < 12
  · rw [if_pos c, if_neg (by omega)]
  · obtain ⟨e, rfl⟩ : ∃ e, p = 12 + e := ⟨p - 12, by omega⟩
    obtain ⟨-, -, t1, t2⟩ := plv_t w.2.1 (by omega) e (by omega)
    rw [if_neg c, if_pos (by omega), Nat.add_sub_cancel_left]
    by_cases c2 : e < w.2.1
    · rw [if_neg (fun q => by have := t1.mp q; omega), t2 c2, if_pos (xok_t (by omega) (by decide)), cl_nI (by omega), if_pos c2, (hC.2.2 _ (by omega)).2]
    · rw [if_pos (t1.mpr (by omega)), if_neg c2]; rfl
end WALKM
