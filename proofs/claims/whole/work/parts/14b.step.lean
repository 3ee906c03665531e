section STEP2
variable {hi : Nat → Nat → Int32} {hl : Nat → Nat → Int64} {r : xRr} {nb nv : Nat} {vb : Nat → Nat} {E : yE} {C : yC}
theorem edge_c (g : Int64) {α : Type} (A B : α) : (if (lg_cmp g (-1152921504606846976 : Int64)) < 0 then A else if (lg_cmp g (1152921504606846976 : Int64)) ≤ 0 then B else A) = @ite α (b1 (inE g) = 0) inferInstance A B := by
  simp only [lg_lt, lg_le]
  by_cases c1 : g < -1152921504606846976
  · have a1 := Int64.lt_iff_toInt_lt.mp c1
    rw [if_pos c1, b1_f (fun q => by have := q.1; omega), if_pos rfl]
  · have a1 : ¬ g.toInt < (-1152921504606846976 : Int64).toInt := fun q => c1 (Int64.lt_iff_toInt_lt.mpr q)
    rw [if_neg c1]
    by_cases c2 : g ≤ 1152921504606846976
    · have a2 := Int64.le_iff_toInt_le.mp c2
      rw [if_pos c2, b1_t ⟨by omega, a2⟩, if_neg (by decide)]
    · have a2 : ¬ g.toInt ≤ (1152921504606846976 : Int64).toInt := fun q => c2 (Int64.le_iff_toInt_le.mpr q)
      rw [if_neg c2, b1_f (fun q => a2 q.2), if_pos rfl]
theorem reckon_c (h : EV nb nv vb E hi) (hC : CC nb C.1 C.2 hi hl) {w b q : Nat} {x z : Nat × Int64} (hw : w ≤ 4) (hb : b < nv) (hq : q ≤ 100) (hx : okt x) (hz : okt z) (e1 : hi 15 0 = nI x.1) (e2 : hl 15 1 = x.2) (e3 : hi 16 0 = nI z.1) (e4 : hl 16 1 = z.2) : ∃ hi' hl', F_X5_reckon (nI w) (nI b) (nI q) hi hl r = some ((rck E C w b (q : Int) x z).1, hi', hl', r) ∧ CC nb (rck E C w b (q : Int) x z).2.1 (rck E C w b (q : Int) x z).2.2 hi' hl' ∧ (∀ a, a ∉ [3, 15, 16] → hi' a = hi a) ∧ (∀ a, a ∉ [4, 15, 16] → hl' a = hl a) := by
  obtain ⟨n8, n6, -, -, -, -, -, b12, -, bk8⟩ := ev_v h hb
  have hx1 := hx.1
  have hz1 := hz.1
  unfold F_X5_reckon rck
  rw [e1, e3, noTerm_c x.1 (by omega), noTerm_c z.1 (by omega), xbP_some, xbP_some]
  rcases Classical.em (¬ nt x.1 = 0) with c1 | c1'
  · simp only [if_neg c1]
    refine ⟨hi, hl, ?_, hC, fun _ _ => rfl, fun _ _ => rfl⟩
    unfold F_X5_reckon_29
    rw [if_neg c1]
  have c1 : nt x.1 = 0 := Classical.not_not.mp c1'
  simp only [if_pos c1]
  rcases Classical.em (¬ nt z.1 = 0) with c2 | c2'
  · simp only [if_neg c2]
    refine ⟨hi, hl, ?_, hC, fun _ _ => rfl, fun _ _ => rfl⟩
    unfold F_X5_reckon_29
    rw [if_neg c2]
  have c2 : nt z.1 = 0 := Classical.not_not.mp c2'
  simp only [if_pos c2]
  have kx := nt_0 hx c1
  have kz := nt_0 hz c2
  have kw := wdr_le kx.2 kz.2
  unfold F_X5_reckon_29
  rw [if_pos c2, e1, e3, wider_c x.1 (by omega) z.1 (by omega), xbP_some]
  generalize wdr x.1 z.1 = k at kw
  have en1 := enter_c (r := r) (t := 15) (b := k) (by decide) (by omega) e1 e2
  have ex : ent k x = (k, rnd k x.2) := by unfold ent; rw [if_pos (by omega)]
  have ez : ent k z = (k, rnd k z.2) := by unfold ent; rw [if_pos (by omega)]
  rw [ex] at en1
  have en2 := enter_c (hi := xu hi 15 0 (nI k)) (hl := xu hl 15 1 (rnd k x.2)) (r := r) (t := 16) (b := k) (x := z) (by decide) (by omega) (by rw [xu_ne2 _ _ (Or.inl (by decide))]; exact e3) (by rw [xu_ne2 _ _ (Or.inl (by decide))]; exact e4)
  rw [ez] at en2
  rw [en1, xbV_some, en2, xbV_some, xu_at, xu_ne2 _ _ (Or.inl (by decide)), xu_at, combined_c hw, xbP_some, rounded_c k (by omega), xbP_some]
  generalize hA : xu (xu hi 15 0 (nI k)) 16 0 (nI k) = hiA
  generalize hB : xu (xu hl 15 1 (rnd k x.2)) 16 1 (rnd k z.2) = hlA
  have fA : ∀ a, a ∉ [15, 16] → hiA a = hi a := by
    intro a ha
    simp only [List.mem_cons, List.not_mem_nil, or_false, not_or] at ha
    rw [← hA, xu_ne _ _ _ ha.2, xu_ne _ _ _ ha.1]
  have fB : ∀ a, a ∉ [15, 16] → hlA a = hl a := by
    intro a ha
    simp only [List.mem_cons, List.not_mem_nil, or_false, not_or] at ha
    rw [← hB, xu_ne _ _ _ ha.2, xu_ne _ _ _ ha.1]
  have last : ∀ g, rnd k g = g → ∃ hi' hl', F_X5_reckon_135 (nI b) (nI q) (nI k) g hiA hlA r = some ((wrt E C b (q : Int) (k, g) (if eVk E b = 8 then 8 else k)).1, hi', hl', r) ∧ CC nb (wrt E C b (q : Int) (k, g) (if eVk E b = 8 then 8 else k)).2.1 (wrt E C b (q : Int) (k, g) (if eVk E b = 8 then 8 else k)).2.2 hi' hl' ∧ (∀ a, a ∉ [3, 15, 16] → hi' a = hi a) ∧ (∀ a, a ∉ [4, 15, 16] → hl' a = hl a) := by
    intro g hg
    have hEA : EV nb nv vb E (xu hiA 15 0 (nI k)) := (h.ne fA (by decide)).u 0 _ (by decide) (Or.inl (by decide))
    have b12' : (xu hiA 15 0 (nI k)) 12 b = nI (eVk E b) := by rw [xu_ne2 _ _ (Or.inl (by decide)), fA 12 (by decide)]; exact b12
    have e8 : (nI (eVk E b) = (8 : Int32)) = (eVk E b = 8) := nI_eq' (b := 8) (by omega) (by decide)
    have hy : (if eVk E b = 8 then 8 else k) ≤ 8 := by
      by_cases c : eVk E b = 8
      · rw [if_pos c]; omega
      · rw [if_neg c]; omega
    have by' : F_X5_byOfResult (nI b) (nI k) (xu hiA 15 0 (nI k)) (xu hlA 15 1 g) r = some (nI (if eVk E b = 8 then 8 else k), xu hiA 15 0 (nI k), xu hlA 15 1 g, r) := by
      unfold F_X5_byOfResult
      rw [if_pos (xok_t (by omega) (by decide)), cl_nI (by omega), b12']
      simp only [e8]
      by_cases c : eVk E b = 8
      · rw [if_pos c, if_pos c]; rfl
      · rw [if_neg c, if_neg c]
    obtain ⟨hi', hl', q1, q2, q3, q4⟩ := put_c (r := r) (C := C) (hi := xu hiA 15 0 (nI k)) (hl := xu hlA 15 1 g) (t := 15) (v := b) (p := q) (y := if eVk E b = 8 then 8 else k) (x := (k, g)) hEA (hC.fr (by rw [xu_ne _ _ _ (by decide), fA 3 (by decide)]) (by rw [xu_ne _ _ _ (by decide), fB 4 (by decide)])) (by unfold isTh; decide) hb hq (by show k ≤ 10; omega) hy (xu_at _ _ _ _) (xu_at _ _ _ _)
    refine ⟨hi', hl', ?_, q2, fun a ha => ?_, fun a ha => ?_⟩
    · unfold F_X5_reckon_135
      rw [become_c (by decide) (by omega), xbV_some, hg, by', xbI_some, q1, xbI_some]
    · simp only [List.mem_cons, List.not_mem_nil, or_false, not_or] at ha
      rw [q3 a (by simp; omega), xu_ne _ _ _ ha.2.1, fA a (by simp; omega)]
    · simp only [List.mem_cons, List.not_mem_nil, or_false, not_or] at ha
      rw [q4 a (by simp; omega), xu_ne _ _ _ ha.2.1, fB a (by simp; omega)]
  have k4 : (nI k = (4 : Int32)) = (k = 4) := nI_eq' (b := 4) (by omega) (by decide)
  simp only [k4]
  have hr := rkn_r w k (rnd k x.2) (rnd k z.2)
  by_cases c4 : k = 4
  · rw [if_pos c4, if_neg (by omega)]
    have eg : rkn w k (rnd k x.2) (rnd k z.2) = (rnd k (cmb w (rnd k x.2) (rnd k z.2))).toInt32.toInt64 := by
      unfold rkn
      rw [if_pos c4]
      subst c4
      rfl
    rw [eg] at hr ⊢
    exact last _ hr
  · rw [if_neg c4]
    have eg : rkn w k (rnd k x.2) (rnd k z.2) = rnd k (cmb w (rnd k x.2) (rnd k z.2)) := by
      unfold rkn
      rw [if_neg c4]
    rw [eg] at hr ⊢
    rw [edge_c]
    by_cases c5 : b1 (inE (rnd k (cmb w (rnd k x.2) (rnd k z.2)))) = 0
    · simp only [if_pos c5, if_pos (show 4 < k ∧ b1 (inE (rnd k (cmb w (rnd k x.2) (rnd k z.2)))) = 0 from ⟨by omega, c5⟩)]
      refine ⟨hiA, hlA, rfl, hC.fr (fA 3 (by decide)) (fB 4 (by decide)), fun a ha => ?_, fun a ha => ?_⟩
      · simp only [List.mem_cons, List.not_mem_nil, or_false, not_or] at ha
        exact fA a (by simp; omega)
      · simp only [List.mem_cons, List.not_mem_nil, or_false, not_or] at ha
        exact fB a (by simp; omega)
    · simp only [if_neg c5, if_neg (show ¬ (4 < k ∧ b1 (inE (rnd k (cmb w (rnd k x.2) (rnd k z.2)))) = 0) from fun q => c5 q.2)]
      exact last _ hr
theorem perform_c (h : EV nb nv vb E hi) (hC : CC nb C.1 C.2 hi hl) (hO : OKC nb (eBk E) C.1 C.2) {w a p b q : Nat} (hw : w ≤ 4) (ha : a < nv) (hp : p ≤ 100) (hb : b < nv) (hq : q ≤ 100) : ∃ hi' hl', F_X5_perform (nI w) (nI a) (nI p) (nI b) (nI q) hi hl r = some ((stp E C w a (p : Int) b (q : Int)).1, hi', hl', r) ∧ CC nb (stp E C w a (p : Int) b (q : Int)).2.1 (stp E C w a (p : Int) b (q : Int)).2.2 hi' hl' ∧ (∀ a, a ∉ [3, 15, 16] → hi' a = hi a) ∧ (∀ a, a ∉ [4, 15, 16] → hl' a = hl a) := by
  obtain ⟨n8, n6, -, -, -, -, -, a12, -, ak8⟩ := ev_v h ha
  have w0 : (nI w = (0 : Int32)) = (w = 0) := nI_eq' (b := 0) (by omega) (by decide)
  have w4 : (nI w = (4 : Int32)) = (w = 4) := nI_eq' (b := 4) (by omega) (by decide)
  unfold F_X5_perform stp
  rcases Classical.em (¬ rdc E a (p : Int) = 0) with c1 | c1'
  · simp only [if_neg c1]
    rw [take_n (hl := hl) (r := r) h 15 ha hp c1, xbI_some, if_neg c1]
    exact ⟨hi, hl, rfl, hC, fun _ _ => rfl, fun _ _ => rfl⟩
  have c1 : rdc E a (p : Int) = 0 := Classical.not_not.mp c1'
  have hx := thg_ok h hO ha c1
  have k1 : F_X5_take (nI a) (nI p) 15 hi hl r = some (0, xu hi 15 0 (nI (thg E C a (p : Int)).1), xu hl 15 1 (thg E C a (p : Int)).2, r) := take_y (r := r) h hC hO (t := 15) (by unfold isTh; decide) ha hp c1
  generalize ex : thg E C a (p : Int) = x at k1 hx
  have hx1 := hx.1
  simp only [if_pos c1, w0, w4]
  have h1 : EV nb nv vb E (xu hi 15 0 (nI x.1)) := h.u 0 _ (by decide) (Or.inl (by decide))
  have hC1 : CC nb C.1 C.2 (xu hi 15 0 (nI x.1)) (xu hl 15 1 x.2) := hC.fr (xu_ne _ _ _ (by decide)) (xu_ne _ _ _ (by decide))
  have a12' : (xu hi 15 0 (nI x.1)) 12 a = nI (eVk E a) := by rw [xu_ne2 _ _ (Or.inl (by decide))]; exact a12
  rw [k1, xbI_some, if_pos rfl]
  by_cases c2 : w = 0
  · simp only [if_pos c2]
    obtain ⟨hi', hl', q1, q2, q3, q4⟩ := put_c (r := r) (t := 15) (v := b) (p := q) (y := eVk E a) (x := x) h1 hC1 (by unfold isTh; decide) hb hq (by omega) ak8 (xu_at _ _ _ _) (xu_at _ _ _ _)
    refine ⟨hi', hl', ?_, q2, fun a ha => ?_, fun a ha => ?_⟩
    · rw [if_pos (xok_t (by omega) (by decide)), cl_nI (by omega), a12', q1, xbI_some]
    · simp only [List.mem_cons, List.not_mem_nil, or_false, not_or] at ha
      rw [q3 a (by simp; omega), xu_ne _ _ _ ha.2.1]
    · simp only [List.mem_cons, List.not_mem_nil, or_false, not_or] at ha
      rw [q4 a (by simp; omega), xu_ne _ _ _ ha.2.1]
  simp only [if_neg c2]
  rcases Classical.em (¬ rdc E b (q : Int) = 0) with c3 | c3'
  · simp only [if_neg c3]
    rw [take_n (hl := xu hl 15 1 x.2) (r := r) h1 16 hb hq c3, xbI_some, if_neg c3]
    refine ⟨_, _, rfl, hC1, fun a ha => ?_, fun a ha => ?_⟩
    · simp only [List.mem_cons, List.not_mem_nil, or_false, not_or] at ha
      rw [xu_ne _ _ _ ha.2.1]
    · simp only [List.mem_cons, List.not_mem_nil, or_false, not_or] at ha
      rw [xu_ne _ _ _ ha.2.1]
  have c3 : rdc E b (q : Int) = 0 := Classical.not_not.mp c3'
  have hz := thg_ok h hO hb c3
  have k2 : F_X5_take (nI b) (nI q) 16 (xu hi 15 0 (nI x.1)) (xu hl 15 1 x.2) r = some (0, xu (xu hi 15 0 (nI x.1)) 16 0 (nI (thg E C b (q : Int)).1), xu (xu hl 15 1 x.2) 16 1 (thg E C b (q : Int)).2, r) := take_y (r := r) h1 hC1 hO (t := 16) (by unfold isTh; decide) hb hq c3
  generalize ez : thg E C b (q : Int) = z at k2 hz
  have hz1 := hz.1
  simp only [if_pos c3]
  rw [k2, xbI_some, if_pos rfl]
  generalize hA : xu (xu hi 15 0 (nI x.1)) 16 0 (nI z.1) = hiA
  generalize hB : xu (xu hl 15 1 x.2) 16 1 z.2 = hlA
  have fA : ∀ a, a ∉ [15, 16] → hiA a = hi a := by
    intro a ha
    simp only [List.mem_cons, List.not_mem_nil, or_false, not_or] at ha
    rw [← hA, xu_ne _ _ _ ha.2, xu_ne _ _ _ ha.1]
  have fB : ∀ a, a ∉ [15, 16] → hlA a = hl a := by
    intro a ha
    simp only [List.mem_cons, List.not_mem_nil, or_false, not_or] at ha
    rw [← hB, xu_ne _ _ _ ha.2, xu_ne _ _ _ ha.1]
  have hEA : EV nb nv vb E hiA := h.ne fA (by decide)
  have hCA : CC nb C.1 C.2 hiA hlA := hC.fr (fA 3 (by decide)) (fB 4 (by decide))
  have g1 : hiA 15 0 = nI x.1 := by rw [← hA, xu_ne2 _ _ (Or.inl (by decide)), xu_at]
  have g2 : hlA 15 1 = x.2 := by rw [← hB, xu_ne2 _ _ (Or.inl (by decide)), xu_at]
  have g3 : hiA 16 0 = nI z.1 := by rw [← hA, xu_at]
  have g4 : hlA 16 1 = z.2 := by rw [← hB, xu_at]
  by_cases c4 : w = 4
  · simp only [if_pos c4]
    obtain ⟨hi', hl', q1, q2, q3, q4⟩ := swap_c (r := r) hEA hCA ha hp hb hq (by omega) (by omega) g1 g2 g3 g4
    refine ⟨hi', hl', by rw [q1, xbI_some], q2, fun a ha => ?_, fun a ha => ?_⟩
    · simp only [List.mem_cons, List.not_mem_nil, or_false, not_or] at ha
      rw [q3 a (by simp; omega), fA a (by simp; omega)]
    · simp only [List.mem_cons, List.not_mem_nil, or_false, not_or] at ha
      rw [q4 a (by simp; omega), fB a (by simp; omega)]
  · simp only [if_neg c4]
    obtain ⟨hi', hl', q1, q2, q3, q4⟩ := reckon_c (r := r) hEA hCA hw hb hq hx hz g1 g2 g3 g4
    refine ⟨hi', hl', by rw [q1, xbI_some], q2, fun a ha => ?_, fun a ha => ?_⟩
    · simp only [List.mem_cons, List.not_mem_nil, or_false, not_or] at ha
      rw [q3 a (by simp; omega), fA a (by simp; omega)]
    · simp only [List.mem_cons, List.not_mem_nil, or_false, not_or] at ha
      rw [q4 a (by simp; omega), fB a (by simp; omega)]
end STEP2
