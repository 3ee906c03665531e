/-! deeds: the invariant behind them -/
def xDI : List Nat := [3, 15, 16, 18, 19, 20, 21, 22, 23, 24, 25, 26, 27, 28, 29, 33, 34, 35, 41, 42, 43, 44, 45, 46, 47, 48, 49, 50, 51, 52, 53, 54, 55, 56, 57, 58, 59, 60, 61, 62, 63, 64, 65, 66, 67, 68, 69, 70, 71, 72, 73, 74, 75, 86, 88, 89, 90, 93, 101, 102, 109, 113, 115, 117, 118]
def xDL : List Nat := [4, 15, 16, 18, 19, 20, 21, 22, 23, 24, 25, 26, 27, 28, 29, 43, 44, 45, 46, 47, 48, 49, 50, 51, 52, 53, 54, 55, 56, 57, 58, 59, 60, 61, 62, 63, 64, 65, 66, 67, 68, 69, 70, 71, 72, 73, 74, 75, 86, 90, 94, 103, 114, 116]
theorem xInv_deed {hi hiF : Nat → Nat → Int32} {hl hlF : Nat → Nat → Int64} {rF : xRr} {nb nv : Nat} {bk bz ck ck' vb vc vk bo : Nat → Nat} {cn cn' : Nat → Int64} {vf vs : Nat → Int} {ch : Nat → List Nat} {tk : Nat} {tn : Int64} {P' : List xSn} {nx' : Nat} {G : Nat → Option xSn} {ln : Nat} {lp md' mt' : Nat → Nat} {sn : Nat} {st sc : Nat → Nat} (h1 : IB nb bk bz ck cn hi hl) (h2 : IV nb nv vb vf vs vc vk ch bo hi) (h3 : IT tk tn hi hl) (h5 : IG nb bk G hi hl) (h6 : IL nv ln lp hi) (h8 : IS sn st sc hi) (h9 : IP hi)
    (hn : ∀ a, a ∉ xDI → hiF a = hi a) (hp : ∀ j, j ∈ [1, 6, 13, 22, 26, 29] → hiF 90 j = hi 90 j) (hnl : ∀ a, a ∉ xDL → hlF a = hl a) (hpl : hlF 90 14 = hl 90 14)
    (hC : CC nb ck' cn' hiF hlF) (hM : MC nb ck' cn' hiF hlF) (hO : OKC nb bk ck' cn') (hU : IU nb bk P' nx' hiF hlF rF) (hIM : IM md' mt' hiF) : xInv hiF hlF rF := by
  refine ⟨nb, bk, bz, ck', cn', nv, vb, vf, vs, vc, vk, ch, bo, tk, tn, P', nx', G, ln, lp, md', mt', sn, st, sc, ?_, h2.tr (lx hn (by decide)) (hp 6 (by decide)), h3.tr (hn 85 (by decide)) (hnl 85 (by decide)) (hp 13 (by decide)) hpl, hU, h5.tr (lx hn (by decide)) (lx hnl (by decide)), h6.tr (hn 30 (by decide)) (hn 31 (by decide)) (hn 107 (by decide)) (hp 22 (by decide)), hIM, h8.tr (lx hn (by decide)) (hp 26 (by decide)), h9.tr (hn 121 (by decide)) (hn 112 (by decide)) (hp 29 (by decide))⟩
  refine IB_iff.mpr ⟨?_, hC, hM, hO⟩
  have hb := (IB_iff.mp h1).1
  unfold BS at hb ⊢
  rw [hn 1 (by decide), hn 2 (by decide), hn 5 (by decide), hn 91 (by decide), hn 92 (by decide), hp 1 (by decide)]
  exact hb
section DEED
variable {hi : Nat → Nat → Int32} {hl : Nat → Nat → Int64} {r : xRr} {nb nx : Nat} {bk bz ck : Nat → Nat} {cn : Nat → Int64} {P : List xSn}
theorem mark_i (h1 : IB nb bk bz ck cn hi hl) (h4 : IU nb bk P nx hi hl r) : ∃ hi1 hl1, F_X1_mark hi hl r = some (hi1, hl1, r) ∧ (∀ a, a ≠ r.1 → a ≠ r.1 + 1 → hi1 a = hi a) ∧ (∀ a, a ≠ r.1 + 2 → hl1 a = hl a) ∧ imgAt r.1 (nb, ck, cn) hi1 hl1 := by
  have ho := h4.2.2.2.2.2.1.1
  refine ⟨_, _, mark_c ho h1.2.1 h1.1, fun a ha hb => ?_, fun a ha => ?_, ?_, fun j hj => ⟨?_, ?_⟩⟩
  · rw [xfill_ne _ _ _ _ hb, xu_ne _ _ _ ha]
  · rw [xfill_ne _ _ _ _ ha]
  · rw [xfill_ne _ _ _ _ (by omega), xu_at]
  · rw [xfill_in _ _ _ _ _ (by omega) (by show j < 0 + 12 * nb; have : j < 12 * nb := hj; omega)]
    exact (h1.2.2.2.2 j hj).1
  · rw [xfill_in _ _ _ _ _ (by omega) (by show j < 0 + 12 * nb; have : j < 12 * nb := hj; omega)]
    exact (h1.2.2.2.2 j hj).2.2.1
/-- images of the ring aren't touched by what lies in the mark -/
theorem IU.mk {hi' : Nat → Nat → Int32} {hl' : Nat → Nat → Int64} (h : IU nb bk P nx hi hl r) (hI : ∀ a, 41 ≤ a → a ≤ 75 → a ≠ r.1 → a ≠ r.1 + 1 → hi' a = hi a) (h101 : ∀ a, a ∈ [101, 102] → hi' a = hi a) (hp : hi' 90 15 = hi 90 15) (hLL : ∀ a, 43 ≤ a → a ≤ 75 → a ≠ r.1 + 2 → hl' a = hl a) (h103 : hl' 103 = hl 103) : IU nb bk P nx hi' hl' r := by
  obtain ⟨u1, u2, u3, u4, u5, u6, u7⟩ := h
  obtain ⟨g1, g2, g3⟩ := u6
  have g1' := g1
  obtain ⟨z3, hz3, z4⟩ := g1'
  refine ⟨u1, u2, by rw [hI 41 (by omega) (by omega) (by omega) (by omega)]; exact u3, by rw [hI 41 (by omega) (by omega) (by omega) (by omega)]; exact u4, by rw [hp]; exact u5, ⟨g1, g2, g3⟩, fun i s hs => ?_⟩
  obtain ⟨k1, ⟨t, k2, k3⟩, k4, k5⟩ := u7 i s hs
  obtain ⟨t', q1, q2, q3⟩ := g2 _ (Nat.mod_lt (nx + 10 - P.length + i) (by decide : 0 < 10))
  rw [k2] at q1
  obtain rfl := Option.some.inj q1
  obtain ⟨z1, hz1, z2⟩ := q2
  exact ⟨k1, ⟨t, k2, k3.tr (hI _ (by omega) (by omega) q3 (by omega)) (hI _ (by omega) (by omega) (by omega) (by omega)) (hLL _ (by omega) (by omega) (by omega))⟩, by rw [h101 101 (by decide)]; exact k4, k5.tr (h101 102 (by decide)) h103⟩
theorem know_i (h4 : IU nb bk P nx hi hl r) (hs : okcs nb bk (nb, ck, cn)) (hnb : nb ≤ 6) {hi5 : Nat → Nat → Int32} {hl5 : Nat → Nat → Int64} {t2 : Nat} (hr : r.2 nx = some t2)
    (hI : ∀ a, 43 ≤ a → a ≤ 75 → a ≠ r.1 → a ≠ r.1 + 1 → hi5 a = hi a) (hLL : ∀ a, 43 ≤ a → a ≤ 75 → a ≠ r.1 + 2 → hl5 a = hl a) (him : imgAt r.1 (nb, ck, cn) hi5 hl5)
    (e2 : hi5 41 2 = nI ((nx + 1) % 10)) (e3 : hi5 41 3 = nI (min (P.length + 1) 10)) (h101 : ∀ a, a ∈ [101, 102] → hi5 a = hi a) (h103 : hl5 103 = hl 103) (e15 : hi5 90 15 = hi 90 15) (e1 : hi5 90 1 = nI nb) (e113 : ∀ j, j < 12 * nb → hi5 113 j = nI (ck j) ∧ hl5 114 j = cn j) : ∃ hi6 hl6, F_X12_know hi5 hl5 (t2, va_up r.2 nx (some r.1)) = some (hi6, hl6, (t2, va_up r.2 nx (some r.1))) ∧ (∀ a, a ∉ [90, 101, 102] → hi6 a = hi5 a) ∧ (∀ j, j ≠ 15 → hi6 90 j = hi5 90 j) ∧ (∀ a, a ≠ 103 → hl6 a = hl5 a) ∧ IU nb bk (P.drop (P.length / 10) ++ [(nb, ck, cn)]) ((nx + 1) % 10) hi6 hl6 (t2, va_up r.2 nx (some r.1)) := by
  have u1 := h4.1
  have u5 := h4.2.2.2.2.1
  have ho := h4.2.2.2.2.2.1.1
  obtain ⟨z3, hz3, z4⟩ := ho
  obtain ⟨hi6, hl6, k1, k2, k3, k4, k5, k6, k7, k8⟩ := know_m (hi := hi5) (hl := hl5) (r := (t2, va_up r.2 nx (some r.1))) (L := P.length) (by rw [e15]; exact u5) u1
  refine ⟨hi6, hl6, k1, k2, k3, k5, h4.know hs hr rfl (fun a g1 g2 g3 g4 => ?_) (fun a g1 g2 g3 => ?_) ?_ ?_ ?_ k4 (fun i hi9 => ?_) ?_ (fun j hj => ?_) hnb⟩
  · rw [k2 a (by simp; omega), hI a g1 g2 g3 g4]
  · rw [k5 a (by omega), hLL a g1 g2 g3]
  · exact him.tr (k2 _ (by simp; omega)) (k2 _ (by simp; omega)) (k5 _ (by omega))
  · rw [k2 41 (by decide)]; exact e2
  · rw [k2 41 (by decide)]; exact e3
  · rw [← h101 101 (by decide), ← h101 102 (by decide), ← h103]
    exact k6 i hi9
  · rw [k7]; exact e1
  · have hj' : j < 12 * nb := hj
    obtain ⟨g1, g2⟩ := k8 j (by omega)
    obtain ⟨g3, g4⟩ := e113 j hj'
    rw [g1, g2, g3, g4]
    exact ⟨rfl, rfl⟩
theorem okcs_of (h1 : IB nb bk bz ck cn hi hl) : okcs nb bk (nb, ck, cn) := ⟨Nat.le_refl _, fun j hj => (h1.2.2.2.2 j hj).2.2.2.2⟩
end DEED
