/-! going through lines: the class -/
def LR (ln : Nat) (lp : Nat → Nat) (hi : Nat → Nat → Int32) : Prop := hi 30 2 = nI ln ∧ ∀ k, k < 5 * ln → hi 31 k = nI (lp k) ∧ hi 107 k = nI (lp k)
def WC (w : yW) (hi : Nat → Nat → Int32) : Prop := hi 33 4 = nI w.1 ∧ hi 33 3 = nI w.2.1 ∧ ∀ i, i < w.2.1 → hi 34 i = nI (w.2.2.1 i) ∧ hi 35 i = nI (w.2.2.2 i)
def WM (w : yW) (hi : Nat → Nat → Int32) : Prop := hi 90 38 = nI w.1 ∧ hi 90 39 = nI w.2.1 ∧ ∀ i, i < w.2.1 → hi 117 i = nI (w.2.2.1 i) ∧ hi 118 i = nI (w.2.2.2 i)
theorem LR.fr {ln : Nat} {lp : Nat → Nat} {hi hi' : Nat → Nat → Int32} (h : LR ln lp hi) {X : List Nat} (hX : ∀ a, a ∉ X → hi' a = hi a) (hd : [30, 31, 107].all (fun a => decide (a ∉ X)) = true) : LR ln lp hi' := by
  have k := lx hX hd
  unfold LR at h ⊢
  rw [k 30 (by decide), k 31 (by decide), k 107 (by decide)]
  exact h
section WALKC
variable {hl : Nat → Nat → Int64} {r : xRr} {nv ln : Nat} {lp : Nat → Nat}
theorem nI_p1 {a : Nat} (ha : 1 ≤ a) (hb : a < 2 ^ 20) : nI a + (-1 : Int32) = nI (a - 1) := by
  obtain ⟨b, rfl⟩ : ∃ b, a = b + 1 := ⟨a - 1, by omega⟩
  rw [← Int32.sub_eq_add_neg, nI_s1 (by omega), Nat.add_sub_cancel]
theorem opn_16 {lp : Nat → Nat} : ∀ x, opn lp x ≤ x := by
  intro x
  induction x with
  | zero => exact Nat.le_refl _
  | succ x ih =>
    rw [opn_s]
    by_cases c : lp (5 * x) = 5
    · rw [if_pos c]; omega
    · rw [if_neg c]
      by_cases d : lp (5 * x) = 6
      · rw [if_pos d]; omega
      · rw [if_neg d]; omega
theorem endOf_c {hi : Nat → Nat → Int32} (hB : LB nv ln lp) (h0 : opn lp ln = 0) (hln : ln ≤ 16) (hL : LR ln lp hi) {s : Nat} (hs : s < ln) (h5 : lp (5 * s) = 5) : F_X4_endOf (nI s) hi hl r = some (nI (bh lp ln s - 1), hi, hl, r) := by
  obtain ⟨b1, b2, b3, b4, b5⟩ := bh_sp hB h0 hs h5
  have key : ∀ d n x, x + d + 1 = bh lp ln s → s ≤ x → d < n → F_X4_endOf_4 n (nI (opn lp x - opn lp s)) (nI x) hi hl r = some (nI (bh lp ln s - 1), hi, hl, r) := by
    intro d
    induction d with
    | zero =>
      intro n x hxd hsx hn
      obtain ⟨n, rfl⟩ : ∃ q, n = q + 1 := ⟨n - 1, by omega⟩
      have g : ¬ nI ln ≤ nI x := by rw [nI_leI (by omega) (by omega)]; omega
      have k0 := part_c (hl := hl) (r := r) hL.2 hln (i := x) (j := 0) (by omega) (by omega)
      rw [show nI 0 = (0 : Int32) from rfl, Nat.add_zero] at k0
      have xs : s < x := by omega
      have gx := b4 x xs (by omega)
      have ex : opn lp (x + 1) = opn lp s := by rw [show x + 1 = bh lp ln s by omega, b3]
      have c6 : lp (5 * x) = 6 := by
        rw [opn_s] at ex
        by_cases c5 : lp (5 * x) = 5
        · rw [if_pos c5] at ex; omega
        · rw [if_neg c5] at ex
          by_cases c6 : lp (5 * x) = 6
          · exact c6
          · rw [if_neg c6] at ex; omega
      have o1 := opn_16 (lp := lp) x
      have e1 : opn lp x - opn lp s = 1 := by
        rw [opn_s, if_neg (by omega), if_pos c6] at ex
        omega
      unfold F_X4_endOf_4
      rw [hL.1, if_neg g, k0, xbI_some, c6, opens_c (by omega), xbP_some, show (if (6 : Nat) = 5 then (1 : Int32) else if (6 : Nat) = 6 then -1 else 0) = -1 from rfl, e1, if_pos (by decide +kernel), show x = bh lp ln s - 1 by omega]
    | succ d ih =>
      intro n x hxd hsx hn
      obtain ⟨n, rfl⟩ : ∃ q, n = q + 1 := ⟨n - 1, by omega⟩
      have g : ¬ nI ln ≤ nI x := by rw [nI_leI (by omega) (by omega)]; omega
      have k0 := part_c (hl := hl) (r := r) hL.2 hln (i := x) (j := 0) (by omega) (by omega)
      rw [show nI 0 = (0 : Int32) from rfl, Nat.add_zero] at k0
      have l6 := (hB x (by omega)).1
      have gx1 := b4 (x + 1) (by omega) (by omega)
      have o1 := opn_16 (lp := lp) x
      have hge : opn lp s ≤ opn lp x := by
        by_cases e : x = s
        · rw [e]; omega
        · have := b4 x (by omega) (by omega); omega
      have es : nI (opn lp x - opn lp s) + (if lp (5 * x) = 5 then (1 : Int32) else if lp (5 * x) = 6 then -1 else 0) = nI (opn lp (x + 1) - opn lp s) := by
        rw [opn_s] at gx1 ⊢
        by_cases c5 : lp (5 * x) = 5
        · simp only [if_pos c5] at gx1 ⊢
          rw [show nI (opn lp x - opn lp s) + 1 = nI (opn lp x - opn lp s + 1) from nI_1 _]
          congr 1
          omega
        · simp only [if_neg c5] at gx1 ⊢
          by_cases c6 : lp (5 * x) = 6
          · simp only [if_pos c6] at gx1 ⊢
            rw [nI_p1 (by omega) (by omega)]
            congr 1
            omega
          · simp only [if_neg c6]
            exact nI_add _ 0
      have nz : ¬ nI (opn lp (x + 1) - opn lp s) = (0 : Int32) := by
        have := opn_16 (lp := lp) (x + 1)
        rw [show (0 : Int32) = nI 0 from rfl, nI_eq (by omega) (by decide)]; omega
      unfold F_X4_endOf_4
      rw [hL.1, if_neg g, k0, xbI_some, opens_c l6, xbP_some, es, if_neg nz, show nI x + 1 = nI (x + 1) from nI_1 x]
      exact ih n (x + 1) (by omega) (by omega) (by omega)
  have k := key (bh lp ln s - 1 - s) 1000000 s (by omega) (Nat.le_refl _) (by omega)
  rw [Nat.sub_self] at k
  exact k
theorem pass_c {hi : Nat → Nat → Int32} (hB : LB nv ln lp) (h0 : opn lp ln = 0) (h3 : ∀ i, i ≤ ln → opn lp i ≤ 3) (hln : ln ≤ 16) (hL : LR ln lp hi) {w : yW} (hW : WI lp ln w) (hC : WC w hi) (hw : w.1 < ln) (hl5 : ¬ lp (5 * w.1) < 5) {c : Nat} (hc : c < 1000000) (n : Nat) : ∃ hi', F_X9_nextStep_2 (n + 1) (nI c) hi hl r = F_X9_nextStep_2 n (nI (c + 1)) hi' hl r ∧ WC (wNx lp ln w) hi' ∧ (∀ a, a ∉ [33, 34, 35] → hi' a = hi a) := by
  obtain ⟨at', d, S, T⟩ := w
  obtain ⟨a1, a2, a3⟩ := hW
  obtain ⟨c1, c2, c3⟩ := hC
  simp only at a1 a2 a3 hw hl5 c1 c2 c3
  have l6 := (hB at' hw).1
  have hd := h3 at' a1
  rw [a2] at hd
  have g1 : ¬ (1000000 : Int32) ≤ nI c := by rw [show (1000000 : Int32) = nI 1000000 from rfl, nI_leI (by omega) (by omega)]; omega
  have g2 : ¬ nI ln ≤ nI at' := by rw [nI_leI (by omega) (by omega)]; omega
  have k0 := part_c (hl := hl) (r := r) hL.2 hln (i := at') (j := 0) hw (by omega)
  rw [show nI 0 = (0 : Int32) from rfl, Nat.add_zero] at k0
  have g3 : (5 : Int32) ≤ nI (lp (5 * at')) := by rw [show (5 : Int32) = nI 5 from rfl, nI_leI (by decide) (by omega)]; omega
  have e5 : (nI (lp (5 * at')) = (5 : Int32)) = (lp (5 * at') = 5) := nI_eq' (b := 5) (by omega) (by decide)
  unfold wNx
  simp only
  by_cases c5 : lp (5 * at') = 5
  · have l9 := ((hB at' hw).2.2.1 c5).1
    have k1 := part_c (hl := hl) (r := r) hL.2 hln (i := at') (j := 1) hw (by omega)
    rw [show nI 1 = (1 : Int32) from rfl] at k1
    have e0 : (nI (lp (5 * at' + 1)) = (0 : Int32)) = (lp (5 * at' + 1) = 0) := nI_eq' (b := 0) (by omega) (by decide)
    have un : F_X9_nextStep_2 (n + 1) (nI c) hi hl r = xbV (F_X9_enterTurns (nI at') hi hl r) (fun hi8 hl8 r8 => F_X9_nextStep_2 n (nI (c + 1)) hi8 hl8 r8) := by
      conv => lhs; unfold F_X9_nextStep_2 F_X9_nextStep_71
      rw [if_neg g1, hL.1, c1, if_neg g2, k0, xbI_some, if_pos g3, if_pos (by rw [e5]; exact c5), show nI c + 1 = nI (c + 1) from nI_1 c]
    rw [if_pos c5, un]
    obtain ⟨b1, b2, b3, b4, b5⟩ := bh_sp hB h0 hw c5
    unfold F_X9_enterTurns F_X9_enterTurns_20
    rw [k1, xbI_some]
    simp only [e0]
    by_cases cz : lp (5 * at' + 1) = 0
    · rw [if_pos cz, if_pos cz, endOf_c hB h0 hln hL hw c5, xbI_some, xbV_some, show nI (bh lp ln at' - 1) + 1 = nI (bh lp ln at' - 1 + 1) from nI_1 _, show bh lp ln at' - 1 + 1 = bh lp ln at' by omega]
      refine ⟨_, rfl, ⟨xu_at _ _ _ _, by rw [xu_ne2 _ _ (Or.inr (by decide))]; exact c2, fun i hi9 => ?_⟩, fun a ha => xu_ne _ _ _ (nDe ha (by decide))⟩
      rw [xu_ne2 _ _ (Or.inl (by decide)), xu_ne2 _ _ (Or.inl (by decide))]
      exact c3 i hi9
    · have hd1 := h3 (at' + 1) (by omega)
      rw [opn_s, if_pos c5, a2] at hd1
      have n3 : ¬ nI d = (3 : Int32) := by rw [show (3 : Int32) = nI 3 from rfl, nI_eq (by omega) (by decide)]; omega
      rw [if_neg cz, if_neg cz, c2, if_neg n3, if_pos (xok_t (by omega) (by decide)), cl_nI (by omega), xu_ne2 _ _ (Or.inl (by decide)), c2, if_pos (xok_t (by omega) (by decide)), cl_nI (by omega), xu_ne2 _ _ (Or.inl (by decide)), xu_ne2 _ _ (Or.inl (by decide)), c2, xbV_some, show nI d + 1 = nI (d + 1) from nI_1 d, show nI at' + 1 = nI (at' + 1) from nI_1 at']
      refine ⟨_, rfl, ⟨xu_at _ _ _ _, ?_, fun i hi9 => ?_⟩, fun a ha => ?_⟩
      · show _ = nI (d + 1)
        rw [xu_ne2 _ _ (Or.inr (by decide)), xu_at]
      · have hi9' : i < d + 1 := hi9
        show _ = nI (va_up S d at' i) ∧ _ = nI (va_up T d 0 i)
        constructor
        · rw [xu_ne2 _ _ (Or.inl (by decide)), xu_ne2 _ _ (Or.inl (by decide)), xu_ne2 _ _ (Or.inl (by decide))]
          by_cases e : i = d
          · subst e
            rw [xu_at, up_at]
          · rw [xu_ne2 _ _ (Or.inr e), up_ne e]
            exact (c3 i (by omega)).1
        · rw [xu_ne2 _ _ (Or.inl (by decide)), xu_ne2 _ _ (Or.inl (by decide))]
          by_cases e : i = d
          · subst e
            rw [xu_at, up_at]
            rfl
          · rw [xu_ne2 _ _ (Or.inr e), xu_ne2 _ _ (Or.inl (by decide)), up_ne e]
            exact (c3 i (by omega)).2
      · simp only [List.mem_cons, List.not_mem_nil, or_false, not_or] at ha
        rw [xu_ne _ _ _ ha.1, xu_ne _ _ _ ha.1, xu_ne _ _ _ ha.2.2, xu_ne _ _ _ ha.2.1]
  · have c6 : lp (5 * at') = 6 := by omega
    have un : F_X9_nextStep_2 (n + 1) (nI c) hi hl r = xbV (F_X9_endTurn hi hl r) (fun hi8 hl8 r8 => F_X9_nextStep_2 n (nI (c + 1)) hi8 hl8 r8) := by
      conv => lhs; unfold F_X9_nextStep_2 F_X9_nextStep_71
      rw [if_neg g1, hL.1, c1, if_neg g2, k0, xbI_some, if_pos g3, if_neg (by rw [e5]; exact c5), show nI c + 1 = nI (c + 1) from nI_1 c]
    rw [if_neg c5, un]
    have dp := ((hB at' hw).2.2.2 c6).1
    rw [a2] at dp
    obtain ⟨d, rfl⟩ : ∃ q, d = q + 1 := ⟨d - 1, by omega⟩
    rw [Nat.add_sub_cancel]
    obtain ⟨z1, z2, z3, z4, z5⟩ := a3 d (by omega)
    obtain ⟨f1, f2⟩ := c3 d (by omega)
    have l9 := ((hB (S d) (by omega)).2.2.1 z2).1
    have nz : ¬ nI (d + 1) = (0 : Int32) := by rw [show (0 : Int32) = nI 0 from rfl, nI_eq (by omega) (by decide)]; omega
    generalize hG : xu hi 35 d (nI (T d + 1)) = hiG
    have fG : ∀ a, a ≠ 35 → hiG a = hi a := fun a ha => by rw [← hG, xu_ne _ _ _ ha]
    have k1 := part_c (hi := hiG) (hl := hl) (r := r) (lp := lp) (hL.fr (X := [35]) (fun a ha => fG a (by simpa using ha)) (by decide)).2 hln (i := S d) (j := 1) (by omega) (by omega)
    rw [show nI 1 = (1 : Int32) from rfl] at k1
    have el : (nI (lp (5 * S d + 1)) ≤ nI (T d + 1)) = (lp (5 * S d + 1) ≤ T d + 1) := nI_le' (by omega) (by omega)
    have c2' : hiG 33 3 = nI (d + 1) := by rw [fG 33 (by decide)]; exact c2
    have f1' : hiG 34 d = nI (S d) := by rw [fG 34 (by decide)]; exact f1
    have f2' : hiG 35 d = nI (T d + 1) := by rw [← hG, xu_at]
    have c1' : hiG 33 4 = nI at' := by rw [fG 33 (by decide)]; exact c1
    unfold F_X9_endTurn
    rw [c2, if_neg nz, nI_s1 (by omega), if_pos (xok_t (by omega) (by decide)), cl_nI (by omega), f2, show nI (T d) + 1 = nI (T d + 1) from nI_1 _, hG, c2', nI_s1 (by omega), if_pos (xok_t (by omega) (by decide)), cl_nI (by omega), f1', k1, xbI_some, f2', c2', nI_s1 (by omega), if_pos (xok_t (by omega) (by decide)), cl_nI (by omega), f1', xu_ne2 _ _ (Or.inr (by decide)), c1', show nI at' + 1 = nI (at' + 1) from nI_1 _, show nI (S d) + 1 = nI (S d + 1) from nI_1 _]
    simp only [el]
    by_cases ct : T d + 1 < lp (5 * S d + 1)
    · rw [if_pos ct, if_neg (by omega), xbV_some]
      refine ⟨_, rfl, ⟨xu_at _ _ _ _, by rw [xu_ne2 _ _ (Or.inr (by decide))]; exact c2', fun i hi9 => ?_⟩, fun a ha => by rw [xu_ne _ _ _ (nDe ha (by decide)), fG a (nDe ha (by decide))]⟩
      have hi9' : i < d + 1 := hi9
      show _ = nI (S i) ∧ _ = nI (va_up T d (T d + 1) i)
      rw [xu_ne2 _ _ (Or.inl (by decide)), xu_ne2 _ _ (Or.inl (by decide))]
      by_cases e : i = d
      · subst e
        rw [up_at]
        exact ⟨f1', f2'⟩
      · rw [up_ne e, fG 34 (by decide), ← hG, xu_ne2 _ _ (Or.inr e)]
        exact c3 i hi9'
    · rw [if_neg ct, if_pos (by omega), xbV_some]
      refine ⟨_, rfl, ⟨xu_at _ _ _ _, by rw [xu_ne2 _ _ (Or.inr (by decide)), xu_at], fun i hi9 => ?_⟩, fun a ha => by rw [xu_ne _ _ _ (nDe ha (by decide)), xu_ne _ _ _ (nDe ha (by decide)), fG a (nDe ha (by decide))]⟩
      have hi9' : i < d := hi9
      show _ = nI (S i) ∧ _ = nI (va_up T d (T d + 1) i)
      rw [xu_ne2 _ _ (Or.inl (by decide)), xu_ne2 _ _ (Or.inl (by decide)), xu_ne2 _ _ (Or.inl (by decide)), xu_ne2 _ _ (Or.inl (by decide)), up_ne (by omega), fG 34 (by decide), ← hG, xu_ne2 _ _ (Or.inr (by omega))]
      exact c3 i (by omega)
theorem next_c (hB : LB nv ln lp) (h0 : opn lp ln = 0) (h3 : ∀ i, i ≤ ln → opn lp i ≤ 3) (hln : ln ≤ 16) : ∀ k w hi c n, WI lp ln w → wPhi lp ln w < k → k ≤ n → c + k ≤ 1000000 → WC w hi → LR ln lp hi → ∃ hi', F_X9_nextStep_2 n (nI c) hi hl r = (if ln ≤ (wGo lp ln k w).1 then some (-20, hi', hl, r) else some (nI (wGo lp ln k w).1, hi', hl, r)) ∧ WC (if ln ≤ (wGo lp ln k w).1 then wGo lp ln k w else ((wGo lp ln k w).1 + 1, (wGo lp ln k w).2)) hi' ∧ (∀ a, a ∉ [33, 34, 35] → hi' a = hi a) := by
  intro k
  induction k with
  | zero => intro w hi c n _ h; omega
  | succ k ih =>
    intro w hi c n hW hp hn hc hC hL
    obtain ⟨n, rfl⟩ : ∃ q, n = q + 1 := ⟨n - 1, by omega⟩
    unfold wGo
    by_cases cs : ln ≤ w.1 ∨ lp (5 * w.1) < 5
    · rw [if_pos cs]
      have g1 : ¬ (1000000 : Int32) ≤ nI c := by rw [show (1000000 : Int32) = nI 1000000 from rfl, nI_leI (by omega) (by omega)]; omega
      have hle := hW.1
      by_cases ce : ln ≤ w.1
      · simp only [if_pos ce]
        refine ⟨hi, ?_, hC, fun _ _ => rfl⟩
        unfold F_X9_nextStep_2
        rw [if_neg g1, hL.1, hC.1, if_pos ((nI_leI (by omega) (by omega)).mpr ce)]
      · simp only [if_neg ce]
        have c5 : lp (5 * w.1) < 5 := by
          rcases cs with q | q
          · exact absurd q ce
          · exact q
        have g2 : ¬ nI ln ≤ nI w.1 := by rw [nI_leI (by omega) (by omega)]; omega
        have k0 := part_c (hl := hl) (r := r) hL.2 hln (i := w.1) (j := 0) (by omega) (by omega)
        rw [show nI 0 = (0 : Int32) from rfl, Nat.add_zero] at k0
        have g3 : ¬ (5 : Int32) ≤ nI (lp (5 * w.1)) := by rw [show (5 : Int32) = nI 5 from rfl, nI_leI (by decide) (by omega)]; omega
        refine ⟨xu hi 33 4 (nI (w.1 + 1)), ?_, ⟨xu_at _ _ _ _, by rw [xu_ne2 _ _ (Or.inr (by decide))]; exact hC.2.1, fun i hi9 => ?_⟩, fun a ha => xu_ne _ _ _ (nDe ha (by decide))⟩
        · unfold F_X9_nextStep_2
          rw [if_neg g1, hL.1, hC.1, if_neg g2, k0, xbI_some, if_neg g3, hC.1, show nI w.1 + 1 = nI (w.1 + 1) from nI_1 _]
        · rw [xu_ne2 _ _ (Or.inl (by decide)), xu_ne2 _ _ (Or.inl (by decide))]
          exact hC.2.2 i hi9
    · rw [if_neg cs]
      simp only [not_or] at cs
      obtain ⟨hi1, q1, q2, q3⟩ := pass_c (hl := hl) (r := r) hB h0 h3 hln hL hW hC (by omega) cs.2 (c := c) (by omega) n
      have := wPhi_lt hB h0 h3 hW (by omega) cs.2
      obtain ⟨hi', z1, z2, z3⟩ := ih (wNx lp ln w) hi1 (c + 1) n (hW.nx hB h0 (by omega) cs.2) (by omega) (by omega) (by omega) q2 (hL.fr q3 (by decide))
      exact ⟨hi', q1.trans z1, z2, fun a ha => by rw [z3 a ha, q3 a ha]⟩
theorem nextS_c (hB : LB nv ln lp) (h0 : opn lp ln = 0) (h3 : ∀ i, i ≤ ln → opn lp i ≤ 3) (hln : ln ≤ 16) {w : yW} {hi : Nat → Nat → Int32} (hW : WI lp ln w) (hC : WC w hi) (hL : LR ln lp hi) : ∃ hi', F_X9_nextStep hi hl r = (if ln ≤ (wS lp ln w).1 then some (-20, hi', hl, r) else some (nI (wS lp ln w).1, hi', hl, r)) ∧ WC (if ln ≤ (wS lp ln w).1 then wS lp ln w else ((wS lp ln w).1 + 1, (wS lp ln w).2)) hi' ∧ (∀ a, a ∉ [33, 34, 35] → hi' a = hi a) :=
  next_c hB h0 h3 hln 50001 w hi 0 1000000 hW (by have := wPhi_le hB h0 h3 hln hW; omega) (by omega) (by omega) hC hL
theorem leave_c {hi : Nat → Nat → Int32} (hB : LB nv ln lp) (h0 : opn lp ln = 0) (h3 : ∀ i, i ≤ ln → opn lp i ≤ 3) (hln : ln ≤ 16) (hL : LR ln lp hi) {w : yW} (hW : WI lp ln w) (hC : WC w hi) : ∃ hi', F_X9_leave hi hl r = some (hi', hl, r) ∧ WC (wLv lp ln w) hi' ∧ (∀ a, a ∉ [33, 34, 35] → hi' a = hi a) := by
  obtain ⟨at', d, S, T⟩ := w
  obtain ⟨a1, a2, a3⟩ := hW
  obtain ⟨c1, c2, c3⟩ := hC
  simp only at a1 a2 a3 c1 c2 c3
  have hd := h3 at' a1
  rw [a2] at hd
  have e0 : (nI d = (0 : Int32)) = (d = 0) := nI_eq' (b := 0) (by omega) (by decide)
  unfold F_X9_leave wLv
  rw [c2]
  simp only [e0]
  by_cases c : d = 0
  · rw [if_pos c, if_pos c, hL.1]
    exact ⟨_, rfl, ⟨xu_at _ _ _ _, by rw [xu_ne2 _ _ (Or.inr (by decide))]; exact c2, fun i hi9 => by have : i < d := hi9; omega⟩, fun a ha => xu_ne _ _ _ (nDe ha (by decide))⟩
  · obtain ⟨d, rfl⟩ : ∃ q, d = q + 1 := ⟨d - 1, by omega⟩
    obtain ⟨z1, z2, z3, z4, z5⟩ := a3 d (by omega)
    obtain ⟨b1, b2, b3, b4, b5⟩ := bh_sp hB h0 (s := S d) (by omega) z2
    generalize hG : xu hi 33 3 (nI d) = hiG
    have fG : ∀ a, a ≠ 33 → hiG a = hi a := fun a ha => by rw [← hG, xu_ne _ _ _ ha]
    have ke := endOf_c (hi := hiG) (hl := hl) (r := r) hB h0 hln (hL.fr (X := [33]) (fun a ha => fG a (by simpa using ha)) (by decide)) (s := S d) (by omega) z2
    rw [if_neg c, if_neg c, nI_s1 (by omega), hG, show hiG 33 3 = nI d by rw [← hG, xu_at], if_pos (xok_t (by omega) (by decide)), cl_nI (by omega), fG 34 (by decide), (c3 d (by omega)).1, ke, xbI_some, show nI (bh lp ln (S d) - 1) + 1 = nI (bh lp ln (S d) - 1 + 1) from nI_1 _, show bh lp ln (S d) - 1 + 1 = bh lp ln (S d) by omega, Nat.add_sub_cancel]
    refine ⟨_, rfl, ⟨xu_at _ _ _ _, by rw [xu_ne2 _ _ (Or.inr (by decide)), ← hG, xu_at], fun i hi9 => ?_⟩, fun a ha => by rw [xu_ne _ _ _ (nDe ha (by decide)), fG a (nDe ha (by decide))]⟩
    have hi9' : i < d := hi9
    rw [xu_ne2 _ _ (Or.inl (by decide)), xu_ne2 _ _ (Or.inl (by decide)), fG 34 (by decide), fG 35 (by decide)]
    exact c3 i (by omega)
/-- a place that may be a turn's number -/
def plv (w : yW) (p : Nat) : Nat := if p < 12 then p else if p - 12 < w.2.1 then w.2.2.2 (w.2.1 - 1 - (p - 12)) else 0
theorem plv_t : ∀ d, d < 4 → ∀ e, e < 2 → ((nI d - 1 - (nI (12 + e) - 12) < 0) ↔ d ≤ e) ∧ (e < d → nI d - 1 - (nI (12 + e) - 12) = nI (d - 1 - e)) ∧ ((nI d - (nI (12 + e) - 11) < 0) ↔ d ≤ e) ∧ (e < d → nI d - (nI (12 + e) - 11) = nI (d - 1 - e)) := by decide +kernel
theorem plv_le (hB : LB nv ln lp) {w : yW} (hW : WI lp ln w) (p : Nat) : plv w p ≤ 11 := by
  unfold plv
  by_cases c : p < 12
  · rw [if_pos c]; omega
  · rw [if_neg c]
    by_cases d : p - 12 < w.2.1
    · rw [if_pos d]
      obtain ⟨g1, g2, g3, g4, g5⟩ := hW.2.2 (w.2.1 - 1 - (p - 12)) (by omega)
      have := ((hB (w.2.2.1 (w.2.1 - 1 - (p - 12))) (by have := hW.1; omega)).2.2.1 g2).1
      omega
    · rw [if_neg d]; omega
theorem place_w {hi : Nat → Nat → Int32} (hln : ln ≤ 16) (hL : LR ln lp hi) {w : yW} (hC : WC w hi) (hd : w.2.1 ≤ 3) {i j : Nat} (hi9 : i < ln) (hj : j < 5) (hp : lp (5 * i + j) ≤ 13) : F_X9_place (nI i) (nI j) hi hl r = some (nI (plv w (lp (5 * i + j))), hi, hl, r) := by
  have k := part_c (hl := hl) (r := r) hL.2 hln (i := i) (j := j) hi9 hj
  unfold F_X9_place plv
  rw [k, xbI_some, hC.2.1]
  generalize lp (5 * i + j) = p at hp
  have e12 : ((12 : Int32) ≤ nI p) = (12 ≤ p) := nI_le' (a := 12) (by decide) (by omega)
  simp only [e12]
  by_cases c : p < 12
  · rw [if_pos c, if_neg (by omega)]
  · obtain ⟨e, rfl⟩ : ∃ e, p = 12 + e := ⟨p - 12, by omega⟩
    obtain ⟨t1, t2, -, -⟩ := plv_t w.2.1 (by omega) e (by omega)
    rw [if_neg c, if_pos (by omega), Nat.add_sub_cancel_left]
    by_cases c2 : e < w.2.1
    · rw [if_neg (fun q => by have := t1.mp q; omega), t2 c2, if_pos (xok_t (by omega) (by decide)), cl_nI (by omega), if_pos c2, (hC.2.2 _ (by omega)).2]
    · rw [if_pos (t1.mpr (by omega)), if_neg c2]; rfl
end WALKC
