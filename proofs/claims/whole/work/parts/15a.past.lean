/-! what is known behind a deed -/
section PAST
variable {hi : Nat → Nat → Int32} {hl : Nat → Nat → Int64} {r : xRr}
theorem know90 {u : Nat} (hu : u < 10) (e : hi 90 15 = nI u) : F_X12_know_90 1000000 0 hi hl r = some (xu (xu (xfill hi 102 (72 * u) 72 (fun j => hi 113 (j - 72 * u))) 101 u (hi 90 1)) 90 15 (nI (u + 1)), xfill hl 103 (72 * u) 72 (fun j => hl 114 (j - 72 * u)), r) := by
  have key : ∀ k n i, i + k = 72 → k < n → F_X12_know_90 n (nI i) (xfill hi 102 (72 * u) i (fun j => hi 113 (j - 72 * u))) (xfill hl 103 (72 * u) i (fun j => hl 114 (j - 72 * u))) r = some (xu (xu (xfill hi 102 (72 * u) 72 (fun j => hi 113 (j - 72 * u))) 101 u (hi 90 1)) 90 15 (nI (u + 1)), xfill hl 103 (72 * u) 72 (fun j => hl 114 (j - 72 * u)), r) := by
    intro k
    induction k with
    | zero =>
      intro n i hik hn
      obtain ⟨n, rfl⟩ : ∃ q, n = q + 1 := ⟨n - 1, by omega⟩
      have : i = 72 := by omega
      subst this
      unfold F_X12_know_90
      rw [if_pos (by decide), xu_ne2 _ _ (Or.inl (by decide)), xfill_ne hi _ _ _ (show 90 ≠ 102 by decide), e, if_pos (xok_t hu (by decide)), cl_nI (by omega), show nI u + 1 = nI (u + 1) from nI_1 u]
    | succ k ih =>
      intro n i hik hn
      obtain ⟨n, rfl⟩ : ∃ q, n = q + 1 := ⟨n - 1, by omega⟩
      have g : ¬ (72 : Int32) ≤ nI i := by
        rw [show (72 : Int32) = nI 72 from rfl, nI_leI (by omega) (by omega)]
        omega
      unfold F_X12_know_90
      rw [if_neg g, if_pos (xok_t (by omega) (by decide)), xu_ne2 _ _ (Or.inl (by decide)), xfill_ne hi _ _ _ (show 90 ≠ 102 by decide), e, nI_72mul, nI_add, if_pos (xok_t (by omega) (by decide)), if_pos (xok_t (by omega) (by decide)), cl_nI (by omega), cl_nI (by omega), xfill_ne hi _ _ _ (show 113 ≠ 102 by decide), xfill_ne hl _ _ _ (show 114 ≠ 103 by decide)]
      rw [xfill_s _ _ _ _ _ (by simp), xfill_s _ _ _ _ _ (by simp), show nI i + 1 = nI (i + 1) from nI_1 i]
      exact ih n (i + 1) (by omega) (by omega)
  have h1 := key 72 1000000 0 (by decide) (by decide)
  rw [xfill_0, xfill_0] at h1
  exact h1
theorem know56 : F_X12_know_56 1000000 0 hi hl r = F_X12_know_88 (xu (xfill hi 101 0 9 (fun j => hi 101 (j + 1))) 90 15 9) hl r := by
  have key : ∀ k n i, i + k = 9 → k < n → F_X12_know_56 n (nI i) (xfill hi 101 0 i (fun j => hi 101 (j + 1))) hl r = F_X12_know_88 (xu (xfill hi 101 0 9 (fun j => hi 101 (j + 1))) 90 15 9) hl r := by
    intro k
    induction k with
    | zero =>
      intro n i hik hn
      obtain ⟨n, rfl⟩ : ∃ q, n = q + 1 := ⟨n - 1, by omega⟩
      have : i = 9 := by omega
      subst this
      unfold F_X12_know_56
      rw [if_pos (by decide)]
    | succ k ih =>
      intro n i hik hn
      obtain ⟨n, rfl⟩ : ∃ q, n = q + 1 := ⟨n - 1, by omega⟩
      have g : ¬ (9 : Int32) ≤ nI i := by
        rw [show (9 : Int32) = nI 9 from rfl, nI_leI (by omega) (by omega)]
        omega
      unfold F_X12_know_56
      rw [if_neg g, show nI i + 1 = nI (i + 1) from nI_1 i, if_pos (xok_t (by omega) (by decide)), if_pos (xok_t (by omega) (by decide)), cl_nI (by omega), cl_nI (by omega), xfill_out _ _ _ _ _ (Or.inr (Or.inr (by omega)))]
      have s := xfill_s hi 101 0 i (fun j => hi 101 (j + 1)) (w := hi 101 (i + 1)) (by simp)
      rw [Nat.zero_add] at s
      rw [s]
      exact ih n (i + 1) (by omega) (by omega)
  have h1 := key 9 1000000 0 (by decide) (by decide)
  rw [xfill_0] at h1
  exact h1
theorem know11 : F_X12_know_11 1000000 0 hi hl r = F_X12_know_56 1000000 0 (xfill hi 102 0 648 (fun j => hi 102 (j + 72))) (xfill hl 103 0 648 (fun j => hl 103 (j + 72))) r := by
  have key : ∀ k n i, i + k = 648 → k < n → F_X12_know_11 n (nI i) (xfill hi 102 0 i (fun j => hi 102 (j + 72))) (xfill hl 103 0 i (fun j => hl 103 (j + 72))) r = F_X12_know_56 1000000 0 (xfill hi 102 0 648 (fun j => hi 102 (j + 72))) (xfill hl 103 0 648 (fun j => hl 103 (j + 72))) r := by
    intro k
    induction k with
    | zero =>
      intro n i hik hn
      obtain ⟨n, rfl⟩ : ∃ q, n = q + 1 := ⟨n - 1, by omega⟩
      have : i = 648 := by omega
      subst this
      unfold F_X12_know_11
      rw [if_pos (by decide)]
    | succ k ih =>
      intro n i hik hn
      obtain ⟨n, rfl⟩ : ∃ q, n = q + 1 := ⟨n - 1, by omega⟩
      have g : ¬ (648 : Int32) ≤ nI i := by
        rw [show (648 : Int32) = nI 648 from rfl, nI_leI (by omega) (by omega)]
        omega
      unfold F_X12_know_11
      rw [if_neg g, show nI i + 72 = nI (i + 72) from nI_add i 72, if_pos (xok_t (by omega) (by decide)), if_pos (xok_t (by omega) (by decide)), cl_nI (by omega), cl_nI (by omega), xfill_out hi _ _ _ _ (Or.inr (Or.inr (by omega))), xfill_out hl _ _ _ _ (Or.inr (Or.inr (by omega)))]
      have s := xfill_s hi 102 0 i (fun j => hi 102 (j + 72)) (w := hi 102 (i + 72)) (by simp)
      have s' := xfill_s hl 103 0 i (fun j => hl 103 (j + 72)) (w := hl 103 (i + 72)) (by simp)
      rw [Nat.zero_add] at s s'
      rw [s, s', show nI i + 1 = nI (i + 1) from nI_1 i]
      exact ih n (i + 1) (by omega) (by omega)
  have h1 := key 648 1000000 0 (by decide) (by decide)
  rw [xfill_0, xfill_0] at h1
  exact h1
theorem know_m {L : Nat} (e : hi 90 15 = nI L) (hL : L ≤ 10) : ∃ hi' hl', F_X12_know hi hl r = some (hi', hl', r) ∧ (∀ a, a ∉ [90, 101, 102] → hi' a = hi a) ∧ (∀ j, j ≠ 15 → hi' 90 j = hi 90 j) ∧ hi' 90 15 = nI (min (L + 1) 10) ∧ (∀ a, a ≠ 103 → hl' a = hl a) ∧ (∀ i, i < L - L / 10 → hi' 101 i = hi 101 (i + L / 10) ∧ ∀ j, j < 72 → hi' 102 (72 * i + j) = hi 102 (72 * (i + L / 10) + j) ∧ hl' 103 (72 * i + j) = hl 103 (72 * (i + L / 10) + j)) ∧ hi' 101 (L - L / 10) = hi 90 1 ∧ ∀ j, j < 72 → hi' 102 (72 * (L - L / 10) + j) = hi 113 j ∧ hl' 103 (72 * (L - L / 10) + j) = hl 114 j := by
  have e10 : (nI L = (10 : Int32)) = (L = 10) := nI_eq' (b := 10) (by omega) (by decide)
  unfold F_X12_know
  rw [e]
  simp only [e10]
  by_cases c : L = 10
  · rw [if_pos c, know11, know56]
    unfold F_X12_know_88
    generalize hA : xu (xfill (xfill hi 102 0 648 (fun j => hi 102 (j + 72))) 101 0 9 (fun j => xfill hi 102 0 648 (fun j => hi 102 (j + 72)) 101 (j + 1))) 90 15 9 = hiA
    generalize hB : xfill hl 103 0 648 (fun j => hl 103 (j + 72)) = hlA
    have e9 : hiA 90 15 = nI 9 := by rw [← hA, xu_at]; rfl
    have nA : ∀ a, a ∉ [90, 101, 102] → hiA a = hi a := by
      intro a ha
      simp only [List.mem_cons, List.not_mem_nil, or_false, not_or] at ha
      rw [← hA, xu_ne _ _ _ ha.1, xfill_ne _ _ _ _ ha.2.1, xfill_ne _ _ _ _ ha.2.2]
    have nB : ∀ a, a ≠ 103 → hlA a = hl a := fun a ha => by rw [← hB, xfill_ne _ _ _ _ ha]
    have n90 : ∀ j, j ≠ 15 → hiA 90 j = hi 90 j := fun j hj => by rw [← hA, xu_ne2 _ _ (Or.inr hj), xfill_ne _ _ _ _ (by decide), xfill_ne _ _ _ _ (by decide)]
    have n101 : ∀ i, i < 9 → hiA 101 i = hi 101 (i + 1) := fun i h9 => by rw [← hA, xu_ne2 _ _ (Or.inl (by decide)), xfill_in _ _ _ _ _ (by omega) (by omega), xfill_ne hi _ _ _ (show 101 ≠ 102 by decide)]
    have n102 : ∀ j, j < 648 → hiA 102 j = hi 102 (j + 72) := fun j h9 => by rw [← hA, xu_ne2 _ _ (Or.inl (by decide)), xfill_ne _ _ _ _ (by decide), xfill_in _ _ _ _ _ (by omega) (by omega)]
    have n103 : ∀ j, j < 648 → hlA 103 j = hl 103 (j + 72) := fun j h9 => by rw [← hB, xfill_in _ _ _ _ _ (by omega) (by omega)]
    rw [know90 (by decide) e9]
    refine ⟨_, _, rfl, fun a ha => ?_, fun j hj => ?_, ?_, fun a ha => ?_, fun i hi9 => ⟨?_, fun j hj => ⟨?_, ?_⟩⟩, ?_, fun j hj => ⟨?_, ?_⟩⟩
    · have ha' := ha
      simp only [List.mem_cons, List.not_mem_nil, or_false, not_or] at ha
      rw [xu_ne _ _ _ ha.1, xu_ne _ _ _ ha.2.1, xfill_ne _ _ _ _ ha.2.2, nA a ha']
    · rw [xu_ne2 _ _ (Or.inr hj), xu_ne2 _ _ (Or.inl (by decide)), xfill_ne _ _ _ _ (by decide), n90 j hj]
    · rw [xu_at, c]
      rfl
    · rw [xfill_ne _ _ _ _ ha, nB a ha]
    · rw [xu_ne2 _ _ (Or.inl (by decide)), xu_ne2 _ _ (Or.inr (by omega)), xfill_ne _ _ _ _ (by decide), n101 i (by omega), c]
    · rw [xu_ne2 _ _ (Or.inl (by decide)), xu_ne2 _ _ (Or.inl (by decide)), xfill_out _ _ _ _ _ (Or.inr (Or.inl (by omega))), n102 _ (by omega), c]
      congr 1
      omega
    · rw [xfill_out _ _ _ _ _ (Or.inr (Or.inl (by omega))), n103 _ (by omega), c]
      congr 1
      omega
    · rw [c, xu_ne2 _ _ (Or.inl (by decide)), show 10 - 10 / 10 = 9 from rfl, xu_at, n90 1 (by decide)]
    · rw [c, xu_ne2 _ _ (Or.inl (by decide)), xu_ne2 _ _ (Or.inl (by decide)), xfill_in _ _ _ _ _ (by omega) (by omega), nA 113 (by decide), show 72 * (10 - 10 / 10) + j - 72 * 9 = j by omega]
    · rw [c, xfill_in _ _ _ _ _ (by omega) (by omega), nB 114 (by decide), show 72 * (10 - 10 / 10) + j - 72 * 9 = j by omega]
  · rw [if_neg c]
    unfold F_X12_know_88
    rw [know90 (by omega) e]
    have z : L / 10 = 0 := by omega
    rw [z]
    refine ⟨_, _, rfl, fun a ha => ?_, fun j hj => ?_, ?_, fun a ha => ?_, fun i hi9 => ⟨?_, fun j hj => ⟨?_, ?_⟩⟩, ?_, fun j hj => ⟨?_, ?_⟩⟩
    · simp only [List.mem_cons, List.not_mem_nil, or_false, not_or] at ha
      rw [xu_ne _ _ _ ha.1, xu_ne _ _ _ ha.2.1, xfill_ne _ _ _ _ ha.2.2]
    · rw [xu_ne2 _ _ (Or.inr hj), xu_ne2 _ _ (Or.inl (by decide)), xfill_ne _ _ _ _ (by decide)]
    · rw [xu_at, Nat.min_eq_left (by omega)]
    · rw [xfill_ne _ _ _ _ ha]
    · rw [xu_ne2 _ _ (Or.inl (by decide)), xu_ne2 _ _ (Or.inr (by omega)), xfill_ne _ _ _ _ (by decide)]
      rfl
    · rw [xu_ne2 _ _ (Or.inl (by decide)), xu_ne2 _ _ (Or.inl (by decide)), xfill_out _ _ _ _ _ (Or.inr (Or.inl (by omega)))]
      rfl
    · rw [xfill_out _ _ _ _ _ (Or.inr (Or.inl (by omega)))]
      rfl
    · rw [xu_ne2 _ _ (Or.inl (by decide)), Nat.sub_zero, xu_at]
    · rw [xu_ne2 _ _ (Or.inl (by decide)), xu_ne2 _ _ (Or.inl (by decide)), xfill_in _ _ _ _ _ (by omega) (by omega)]
      congr 1
      omega
    · rw [xfill_in _ _ _ _ _ (by omega) (by omega)]
      congr 1
      omega
theorem mod10' {x : Nat} (hx : x < 10) : nI x + 1 - (nI x + 1) / 10 * 10 = nI ((x + 1) % 10) := by
  revert x
  decide +kernel
theorem keepMark_c {nx L t2 : Nat} (e2 : hi 41 2 = nI nx) (e3 : hi 41 3 = nI L) (hnx : nx < 10) (hL : L ≤ 10) (hr : r.2 nx = some t2) (ho : isI r.1) : F_X1_keepMark hi hl r = some (xu (xu hi 41 2 (nI ((nx + 1) % 10))) 41 3 (nI (min (L + 1) 10)), hl, (t2, va_up r.2 nx (some r.1))) := by
  have x42 : xhr r 42 nx = some t2 := by
    rw [← hr]
    rfl
  have el : ((10 : Int32) < nI (L + 1)) = (10 < L + 1) := nI_lt' (a := 10) (by decide) (by omega)
  unfold F_X1_keepMark
  rw [e2, if_pos (xok_t hnx (by decide)), cl_nI (by omega), x42, xbO_some, if_pos (ho.T.o r).1, if_neg (by decide), mod10' hnx, xu_ne2 _ _ (Or.inr (by decide)), e3, show nI L + 1 = nI (L + 1) from nI_1 L]
  simp only [el]
  by_cases c : 10 < L + 1
  · rw [if_pos c, Nat.min_eq_right (by omega)]
    rfl
  · rw [if_neg c, Nat.min_eq_left (by omega)]
theorem mark_c {nb : Nat} (ho : isI r.1) (hb : hi 1 4 = nI nb) (hnb : nb ≤ 6) : F_X1_mark hi hl r = some (xfill (xu hi r.1 2 (nI nb)) (r.1 + 1) 0 (12 * nb) (hi 3), xfill hl (r.1 + 2) 0 (12 * nb) (hl 4), r) := by
  unfold F_X1_mark
  rw [if_pos (ho.T.o r).1, record_c ho.T hb hnb, xbV_some]
theorem IU.know {nb nx : Nat} {bk : Nat → Nat} {P : List xSn} {hi' : Nat → Nat → Int32} {hl' : Nat → Nat → Int64} {r' : xRr} (h : IU nb bk P nx hi hl r) {s : xSn} (hs : okcs nb bk s) {t2 : Nat} (hr : r.2 nx = some t2) (hr' : r' = (t2, va_up r.2 nx (some r.1)))
    (hI : ∀ a, 43 ≤ a → a ≤ 75 → a ≠ r.1 → a ≠ r.1 + 1 → hi' a = hi a) (hLL : ∀ a, 43 ≤ a → a ≤ 75 → a ≠ r.1 + 2 → hl' a = hl a) (him : imgAt r.1 s hi' hl')
    (e2 : hi' 41 2 = nI ((nx + 1) % 10)) (e3 : hi' 41 3 = nI (min (P.length + 1) 10)) (e15 : hi' 90 15 = nI (min (P.length + 1) 10))
    (hk : ∀ i, i < P.length - P.length / 10 → hi' 101 i = hi 101 (i + P.length / 10) ∧ ∀ j, j < 72 → hi' 102 (72 * i + j) = hi 102 (72 * (i + P.length / 10) + j) ∧ hl' 103 (72 * i + j) = hl 103 (72 * (i + P.length / 10) + j))
    (hk1 : hi' 101 (P.length - P.length / 10) = nI s.1) (hk2 : rowAt 102 103 (72 * (P.length - P.length / 10)) s hi' hl') (hnb : nb ≤ 6) : IU nb bk (P.drop (P.length / 10) ++ [s]) ((nx + 1) % 10) hi' hl' r' := by
  obtain ⟨u1, u2, u3, u4, u5, u6, u7⟩ := h
  subst hr'
  have eL : (P.drop (P.length / 10) ++ [s]).length = P.length - P.length / 10 + 1 := by simp
  have em : min (P.length + 1) 10 = P.length - P.length / 10 + 1 := by omega
  obtain ⟨g1, g2, g3⟩ := u6
  obtain ⟨t2', w1, w2, w3⟩ := g2 nx u2
  rw [hr] at w1
  obtain rfl := Option.some.inj w1
  have up1 : va_up r.2 nx (some r.1) nx = some r.1 := by simp [va_up]
  have up2 : ∀ j, j ≠ nx → va_up r.2 nx (some r.1) j = r.2 j := fun j hj => by simp [va_up, hj]
  refine ⟨by rw [eL]; omega, Nat.mod_lt _ (by decide), e2, by rw [e3, eL, em], by rw [e15, eL, em], ⟨w2, fun j hj => ?_, fun i j hi9 hj9 hij => ?_⟩, fun i v hv => ?_⟩
  · show ∃ t, va_up r.2 nx (some r.1) j = some t ∧ isI t ∧ t ≠ t2
    by_cases c : j = nx
    · subst c
      exact ⟨r.1, up1, g1, fun e => w3 e.symm⟩
    · obtain ⟨t, q1, q2, q3⟩ := g2 j hj
      refine ⟨t, by rw [up2 j c]; exact q1, q2, fun e => c ?_⟩
      subst e
      exact g3 j nx hj u2 (by rw [q1, hr])
  · change va_up r.2 nx (some r.1) i = va_up r.2 nx (some r.1) j at hij
    by_cases c : i = nx
    · by_cases d : j = nx
      · rw [c, d]
      · rw [c, up1, up2 j d] at hij
        obtain ⟨t, q1, q2, q3⟩ := g2 j hj9
        rw [q1] at hij
        exact absurd (Option.some.inj hij).symm q3
    · by_cases d : j = nx
      · rw [d, up1, up2 i c] at hij
        obtain ⟨t, q1, q2, q3⟩ := g2 i hi9
        rw [q1] at hij
        exact absurd (Option.some.inj hij) q3
      · rw [up2 i c, up2 j d] at hij
        exact g3 i j hi9 hj9 hij
  · rw [eL]
    show okcs nb bk v ∧ (∃ t, va_up r.2 nx (some r.1) _ = some t ∧ _) ∧ _
    by_cases c : i < P.length - P.length / 10
    · rw [List.getElem?_append_left (by simp; exact c), List.getElem?_drop] at hv
      rw [Nat.add_comm] at hv
      obtain ⟨k1, ⟨t, k2, k3⟩, k4, k5⟩ := u7 (i + P.length / 10) v hv
      have ei : ((nx + 1) % 10 + 10 - (P.length - P.length / 10 + 1) + i) % 10 = (nx + 10 - P.length + (i + P.length / 10)) % 10 := by
        rcases Nat.lt_or_ge P.length 10 with d | d
        · rw [show P.length / 10 = 0 by omega]
          omega
        · rw [show P.length / 10 = 1 by omega]
          omega
      have ne : (nx + 10 - P.length + (i + P.length / 10)) % 10 ≠ nx := by
        rcases Nat.lt_or_ge P.length 10 with d | d
        · rw [show P.length / 10 = 0 by omega] at c ⊢
          omega
        · rw [show P.length / 10 = 1 by omega] at c ⊢
          omega
      obtain ⟨t', q1, q2, q3⟩ := g2 _ (Nat.mod_lt (nx + 10 - P.length + (i + P.length / 10)) (by decide : 0 < 10))
      rw [k2] at q1
      obtain rfl := Option.some.inj q1
      obtain ⟨z1, hz1, z2⟩ := q2
      obtain ⟨z3, hz3, z4⟩ := g1
      have k1' := k1.1
      obtain ⟨hk3, hk4⟩ := hk i c
      refine ⟨k1, ⟨t, by rw [ei, up2 _ ne]; exact k2, k3.tr (hI _ (by omega) (by omega) q3 (by omega)) (hI _ (by omega) (by omega) (by omega) (by omega)) (hLL _ (by omega) (by omega) (by omega))⟩, by rw [hk3]; exact k4, fun j hj => ?_⟩
      obtain ⟨h5, h6⟩ := hk4 j (by omega)
      rw [h5, h6]
      exact k5 j hj
    · have ce : i = P.length - P.length / 10 := by
        rcases Nat.lt_or_ge i ((P.drop (P.length / 10) ++ [s]).length) with d | d
        · rw [eL] at d; omega
        · rw [List.getElem?_eq_none d] at hv; exact absurd hv (by simp)
      subst ce
      rw [List.getElem?_append_right (by simp)] at hv
      simp at hv
      subst hv
      have ei : ((nx + 1) % 10 + 10 - (P.length - P.length / 10 + 1) + (P.length - P.length / 10)) % 10 = nx := by omega
      exact ⟨hs, ⟨r.1, by rw [ei]; exact up1, him⟩, hk1, hk2⟩
end PAST
