section SAFEO
variable {hi : Nat → Nat → Int32} {hl : Nat → Nat → Int64} {r : xRr} {nb nv : Nat} {vb : Nat → Nat} {vf vs : Nat → Int} {vc vk : Nat → Nat} {ch : Nat → List Nat} {bo : Nat → Nat} {bk bz ck : Nat → Nat} {cn : Nat → Int64}
theorem lesser_m (h : IV nb nv vb vf vs vc vk ch bo hi) {u v : Nat} (hu : u < nv) (hv : v < nv) : F_X12_lesser (nI u) (nI v) hi hl r = some (nI (min (vc u) (vc v)), hi, hl, r) := by
  have hnv := h.1
  obtain ⟨gu, gu2, -⟩ := h.2.2.2 u hu
  obtain ⟨gv, gv2, -⟩ := h.2.2.2 v hv
  unfold F_X12_lesser
  rw [if_pos (xok_t (by omega) (by decide)), if_pos (xok_t (by omega) (by decide)), cl_nI (by omega), cl_nI (by omega), gu2.2.2.2.2.2.1, gv2.2.2.2.2.2.1]
  simp only [nI_le' (show vc v < 2 ^ 31 by omega) (show vc u < 2 ^ 31 by omega)]
  by_cases c : vc v ≤ vc u
  · rw [if_pos c, Nat.min_eq_right c]
  · rw [if_neg c, Nat.min_eq_left (by omega)]
theorem lesser_c (h : IV nb nv vb vf vs vc vk ch bo hi) {u v : Nat} (hu : u < nv) (hv : v < nv) : (if (hi 11 v) < (hi 11 u) then (hi 11 v) else (hi 11 u)) = nI (min (vc u) (vc v)) := by
  obtain ⟨gu, gu2, -⟩ := h.2.2.2 u hu
  obtain ⟨gv, gv2, -⟩ := h.2.2.2 v hv
  rw [gu2.2.2.2.2.1, gv2.2.2.2.2.1]
  simp only [nI_lt' (show vc v < 2 ^ 31 by omega) (show vc u < 2 ^ 31 by omega)]
  by_cases c : vc v < vc u
  · rw [if_pos c, Nat.min_eq_right (by omega)]
  · rw [if_neg c, Nat.min_eq_left (by omega)]
theorem safem_out (h1 : IB nb bk bz ck cn hi hl) (h : IV nb nv vb vf vs vc vk ch bo hi) {u v m : Nat} (hu : u < nv) (hv : v < nv) (hm : m = min (vc u) (vc v)) : ∀ k n i P Q, i + k = m → k < n → F_X12_safe_31 n (nI u) (nI v) (b1 P) (b1 Q) (nI i) hi hl r = some ((if ¬ b1 (P ∧ ∀ i', i ≤ i' → i' < m → ∀ e, 0 ≤ e → e < i' → ¬ one (fun j => clo vf vs vc ch bo bz u (j : Int)) (fun j => clo vf vs vc ch bo bz v (j : Int)) i' e) = 0 then (1 : Int32) else 0) + (if ¬ b1 (Q ∧ ∀ i', i ≤ i' → i' < m → ∀ e, 0 ≤ e → e < i' → ¬ one (fun j => clo vf vs vc ch bo bz u (j : Int)) (fun j => clo vf vs vc ch bo bz v (j : Int)) e i' ∧ ¬ one (fun j => clo vf vs vc ch bo bz v (j : Int)) (fun j => clo vf vs vc ch bo bz v (j : Int)) i' e) = 0 then 2 else 0), hi, hl, r) := by
  have hnv := h.1
  obtain ⟨gu, -⟩ := h.2.2.2 u hu
  obtain ⟨gv, -⟩ := h.2.2.2 v hv
  have hm12 : m ≤ 12 := by omega
  intro k
  induction k with
  | zero =>
    intro n i P Q hik hn
    obtain ⟨n, rfl⟩ : ∃ q, n = q + 1 := ⟨n - 1, by omega⟩
    unfold F_X12_safe_31 F_X12_safe_134 F_X12_safe_144
    rw [lesser_m h hu hv, xbI_some, ← hm, if_pos ((nI_leI (by omega) (by omega)).mpr (by omega))]
    have eP : b1 (P ∧ ∀ i', i ≤ i' → i' < m → ∀ e, 0 ≤ e → e < i' → ¬ one (fun j => clo vf vs vc ch bo bz u (j : Int)) (fun j => clo vf vs vc ch bo bz v (j : Int)) i' e) = b1 P := b1_c ⟨fun q => q.1, fun q => ⟨q, fun i' g1 g2 => by omega⟩⟩
    have eQ : b1 (Q ∧ ∀ i', i ≤ i' → i' < m → ∀ e, 0 ≤ e → e < i' → ¬ one (fun j => clo vf vs vc ch bo bz u (j : Int)) (fun j => clo vf vs vc ch bo bz v (j : Int)) e i' ∧ ¬ one (fun j => clo vf vs vc ch bo bz v (j : Int)) (fun j => clo vf vs vc ch bo bz v (j : Int)) i' e) = b1 Q := b1_c ⟨fun q => q.1, fun q => ⟨q, fun i' g1 g2 => by omega⟩⟩
    rw [eP, eQ]
    by_cases cP : P <;> by_cases cQ : Q <;> simp [b1_t, b1_f, cP, cQ]
  | succ k ih =>
    intro n i P Q hik hn
    obtain ⟨n, rfl⟩ : ∃ q, n = q + 1 := ⟨n - 1, by omega⟩
    have g : ¬ nI m ≤ nI i := by rw [nI_leI (by omega) (by omega)]; omega
    have ki := safem_in (r := r) h1 h hu hv (i := i) (by omega) (F_X12_safe_31 n) i 1000000 0 P Q (by omega) (by omega)
    rw [show nI 0 = (0 : Int32) from rfl, ih n (i + 1) _ _ (by omega) (by omega)] at ki
    unfold F_X12_safe_31
    rw [lesser_m h hu hv, xbI_some, ← hm, if_neg g, ki]
    congr 2
    have eP : b1 ((P ∧ ∀ e, 0 ≤ e → e < i → ¬ one (fun j => clo vf vs vc ch bo bz u (j : Int)) (fun j => clo vf vs vc ch bo bz v (j : Int)) i e) ∧ ∀ i', i + 1 ≤ i' → i' < m → ∀ e, 0 ≤ e → e < i' → ¬ one (fun j => clo vf vs vc ch bo bz u (j : Int)) (fun j => clo vf vs vc ch bo bz v (j : Int)) i' e) = b1 (P ∧ ∀ i', i ≤ i' → i' < m → ∀ e, 0 ≤ e → e < i' → ¬ one (fun j => clo vf vs vc ch bo bz u (j : Int)) (fun j => clo vf vs vc ch bo bz v (j : Int)) i' e) := by
      refine b1_c ⟨fun q => ⟨q.1.1, fun i' g1 g2 => ?_⟩, fun q => ⟨⟨q.1, q.2 i (Nat.le_refl _) (by omega)⟩, fun i' g1 g2 => q.2 i' (by omega) g2⟩⟩
      by_cases ee : i' = i
      · rw [ee]; exact q.1.2
      · exact q.2 i' (by omega) g2
    have eQ : b1 ((Q ∧ ∀ e, 0 ≤ e → e < i → ¬ one (fun j => clo vf vs vc ch bo bz u (j : Int)) (fun j => clo vf vs vc ch bo bz v (j : Int)) e i ∧ ¬ one (fun j => clo vf vs vc ch bo bz v (j : Int)) (fun j => clo vf vs vc ch bo bz v (j : Int)) i e) ∧ ∀ i', i + 1 ≤ i' → i' < m → ∀ e, 0 ≤ e → e < i' → ¬ one (fun j => clo vf vs vc ch bo bz u (j : Int)) (fun j => clo vf vs vc ch bo bz v (j : Int)) e i' ∧ ¬ one (fun j => clo vf vs vc ch bo bz v (j : Int)) (fun j => clo vf vs vc ch bo bz v (j : Int)) i' e) = b1 (Q ∧ ∀ i', i ≤ i' → i' < m → ∀ e, 0 ≤ e → e < i' → ¬ one (fun j => clo vf vs vc ch bo bz u (j : Int)) (fun j => clo vf vs vc ch bo bz v (j : Int)) e i' ∧ ¬ one (fun j => clo vf vs vc ch bo bz v (j : Int)) (fun j => clo vf vs vc ch bo bz v (j : Int)) i' e) := by
      refine b1_c ⟨fun q => ⟨q.1.1, fun i' g1 g2 => ?_⟩, fun q => ⟨⟨q.1, q.2 i (Nat.le_refl _) (by omega)⟩, fun i' g1 g2 => q.2 i' (by omega) g2⟩⟩
      by_cases ee : i' = i
      · rw [ee]; exact q.1.2
      · exact q.2 i' (by omega) g2
    rw [eP, eQ]
end SAFEO
theorem op_safe (a0 a1 : Int32) : xOpI xInv (F_X11_safe a0 a1) (F_X12_safe a0 a1) := by
  intro hi hl r h
  have h0 := h
  obtain ⟨nb, bk, bz, ck, cn, nv, vb, vf, vs, vc, vk, ch, bo, tk, tn, P, nx, G, ln, lp, md, mt, sn, st, sc, h1, h2, h3, h4, h5, h6, h7, h8, h9⟩ := h
  have n1 := h2.1
  have n2 := h2.2.1
  have y6 : (xu hi 90 0 (0 : Int32)) 90 6 = nI nv := by rw [xu_ne2 _ _ (Or.inr (by decide))]; exact h2.2.2.1
  rcases rng a0 (n := nv) (by omega) with ⟨u, hu, rfl, eu⟩ | hbad
  · rcases rng a1 (n := nv) (by omega) with ⟨v, hv, rfl, ev⟩ | hbad
    · have gu := (h2.2.2.2 u hu).1
      have gv := (h2.2.2.2 v hv).1
      have s1 := safeUp_c (r := r) h1 h2 hu hv (m := min (vc u) (vc v)) (by omega) (min (vc u) (vc v)) 1000000 0 (by omega) (by omega)
      have s3 := safeDn_c (r := r) h1 h2 hu hv (m := min (vc u) (vc v)) (by omega) (min (vc u) (vc v)) 1000000 0 (by omega) (by omega)
      have s2 := safem_out (r := r) (h1.sc (scI.p (hi := hi) (0 : Int32) (show 0 ∉ [1, 6, 13, 15, 22, 26, 29] by decide)) scL.rf) (h2.sc (scI.p (hi := hi) (0 : Int32) (show 0 ∉ [1, 6, 13, 15, 22, 26, 29] by decide))) hu hv (m := min (vc u) (vc v)) rfl (min (vc u) (vc v)) 1000000 0 True True (by omega) (by omega)
      rw [show nI 0 = (0 : Int32) from rfl] at s1 s2 s3
      rw [b1_t trivial] at s2
      generalize eC : (fun j : Nat => clo vf vs vc ch bo bz u (j : Int)) = C at s1 s2 s3
      generalize eD : (fun j : Nat => clo vf vs vc ch bo bz v (j : Int)) = D at s1 s2 s3
      generalize em : min (vc u) (vc v) = m at s1 s2 s3
      have eP : b1 (True ∧ ∀ i', 0 ≤ i' → i' < m → ∀ e, 0 ≤ e → e < i' → ¬ one C D i' e) = b1 (∀ i', 0 ≤ i' → i' < m → ¬ ∃ j, 0 ≤ j ∧ j < i' ∧ one C D i' j) := by
        refine b1_c ⟨fun q i' g1 g2 => ?_, fun q => ⟨trivial, fun i' g1 g2 e g3 g4 g5 => q i' g1 g2 ⟨e, g3, g4, g5⟩⟩⟩
        rintro ⟨j, g3, g4, g5⟩
        exact q.2 i' g1 g2 j g3 g4 g5
      have sy : ∀ i j, one D D i j → one D D j i := fun i j ⟨c, x1, x2⟩ => ⟨c, x2, x1⟩
      have eQ : b1 (True ∧ ∀ i', 0 ≤ i' → i' < m → ∀ e, 0 ≤ e → e < i' → ¬ one C D e i' ∧ ¬ one D D i' e) = b1 (∀ i', 0 ≤ i' → i' < m → (¬ ∃ j, i' + 1 ≤ j ∧ j < m ∧ one C D i' j) ∧ ¬ ∃ j, i' + 1 ≤ j ∧ j < m ∧ one D D i' j) := by
        refine b1_c ⟨fun q i' g1 g2 => ⟨?_, ?_⟩, fun q => ⟨trivial, fun i' g1 g2 e g3 g4 => ⟨fun g5 => ?_, fun g5 => ?_⟩⟩⟩
        · rintro ⟨j, g3, g4, g5⟩
          exact (q.2 j (by omega) g4 i' g1 (by omega)).1 g5
        · rintro ⟨j, g3, g4, g5⟩
          exact (q.2 j (by omega) g4 i' g1 (by omega)).2 (sy _ _ g5)
        · exact (q e g3 (by omega)).1 ⟨i', by omega, g2, g5⟩
        · exact (q e g3 (by omega)).2 ⟨i', by omega, g2, sy _ _ g5⟩
      rw [eP, eQ] at s2
      generalize b1 (∀ i', 0 ≤ i' → i' < m → ¬ ∃ j, 0 ≤ j ∧ j < i' ∧ one C D i' j) = A at s1 s2
      generalize b1 (∀ i', 0 ≤ i' → i' < m → (¬ ∃ j, i' + 1 ≤ j ∧ j < m ∧ one C D i' j) ∧ ¬ ∃ j, i' + 1 ≤ j ∧ j < m ∧ one D D i' j) = B at s2 s3
      have lc := lesser_c h2 hu hv
      rw [em] at lc
      refine ⟨(if ¬ A = 0 then (1 : Int32) else 0) + (if ¬ B = 0 then 2 else 0), (hi, hl, r), (xu hi 90 0 0, hl, r), ?_, ?_, h0.th⟩
      · unfold F_X11_safe F_X8_safeUpward F_X11_safe_41 F_X8_safeDownward F_X11_safe_58
        rw [vhas_i n2 n1 hu, xbI_some, if_neg (by decide), vhas_i n2 n1 hv, xbI_some, if_neg (by decide), if_pos (xok_t (by omega) (by decide)), if_pos (xok_t (by omega) (by decide)), cl_nI (by omega), cl_nI (by omega), lc, s1, xbI_some]
        simp only [if_pos (xok_t (show u < 8 by omega) (by decide)), if_pos (xok_t (show v < 8 by omega) (by decide)), cl_nI (show u < 2 ^ 31 by omega), cl_nI (show v < 2 ^ 31 by omega), lc, s3, xbI_some]
        by_cases cA : A = 0 <;> by_cases cB : B = 0 <;> simp [cA, cB]
      · unfold F_X12_safe
        simp only
        rw [mview_i y6 n1 hu, xbI_some, if_neg (by decide), mview_i y6 n1 hv, xbI_some, if_neg (by decide), s2]
    · refine ⟨-1, (hi, hl, r), (xu hi 90 0 0, hl, r), ?_, ?_, h0.th⟩
      · unfold F_X11_safe
        rw [vhas_i n2 n1 hu, xbI_some, if_neg (by decide), vhas_o n2 n1 hbad, xbI_some, if_pos rfl]
      · unfold F_X12_safe
        simp only
        rw [mview_i y6 n1 hu, xbI_some, if_neg (by decide), mview_o y6 n1 hbad, xbI_some, if_pos rfl]
  · refine ⟨-1, (hi, hl, r), (xu hi 90 0 0, hl, r), ?_, ?_, h0.th⟩
    · unfold F_X11_safe
      rw [vhas_o n2 n1 hbad, xbI_some, if_pos rfl]
    · unfold F_X12_safe
      simp only
      rw [mview_o y6 n1 hbad, xbI_some, if_pos rfl]
