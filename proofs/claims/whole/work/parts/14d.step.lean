section STEPN
variable {hi : Nat → Nat → Int32} {hl : Nat → Nat → Int64} {r : xRr} {nb nv : Nat} {vb : Nat → Nat} {E : yE} {C : yC}
theorem reck_m (h : EV nb nv vb E hi) (hM : MC nb C.1 C.2 hi hl) {w b q k : Nat} {x z : Nat × Int64} (hw : w ≤ 4) (hb : b < nv) (hq : q ≤ 100) (hk : 4 ≤ k ∧ k ≤ 7) : ∃ hi' hl', F_X12_goes_230 (nI w) (nI b) (nI q) 0 x.2 z.2 (nI k) hi hl r = some ((if 4 < k ∧ b1 (inE (rkn w k (rnd k x.2) (rnd k z.2))) = 0 then (-10, C) else wrt E C b (q : Int) (k, rkn w k (rnd k x.2) (rnd k z.2)) (if eVk E b = 8 then 8 else k)).1, hi', hl', r) ∧ MC nb (if 4 < k ∧ b1 (inE (rkn w k (rnd k x.2) (rnd k z.2))) = 0 then ((-10 : Int32), C) else wrt E C b (q : Int) (k, rkn w k (rnd k x.2) (rnd k z.2)) (if eVk E b = 8 then 8 else k)).2.1 (if 4 < k ∧ b1 (inE (rkn w k (rnd k x.2) (rnd k z.2))) = 0 then ((-10 : Int32), C) else wrt E C b (q : Int) (k, rkn w k (rnd k x.2) (rnd k z.2)) (if eVk E b = 8 then 8 else k)).2.2 hi' hl' ∧ mI hi hi' ∧ mL hl hl' := by
  obtain ⟨n8, n6, -, -, -, -, -, -, b99, bk8⟩ := ev_v h hb
  unfold F_X12_goes_230
  rw [as_m k (by omega), as_m k (by omega), xbP_some, xbP_some, reckoned_m hw (by omega), xbP_some, if_pos rfl]
  generalize rkn w k (rnd k x.2) (rnd k z.2) = g
  have k4 : (nI k ≤ (4 : Int32)) = (k ≤ 4) := nI_le' (b := 4) (by omega) (by decide)
  have hEA : EV nb nv vb E (xu hi 90 31 (nI k)) := h.m (mI.h _)
  have b99' : (xu hi 90 31 (nI k)) 99 b = nI (eVk E b) := by rw [xu_ne2 _ _ (Or.inl (by decide))]; exact b99
  have e8 : (nI (eVk E b) = (8 : Int32)) = (eVk E b = 8) := nI_eq' (b := 8) (by omega) (by decide)
  have hy : (if eVk E b = 8 then 8 else k) = 8 ∨ ((if eVk E b = 8 then 8 else k) ≤ 7 ∧ (k, g).1 = (if eVk E b = 8 then 8 else k)) := by
    by_cases c : eVk E b = 8
    · rw [if_pos c]; exact Or.inl rfl
    · rw [if_neg c]; exact Or.inr ⟨hk.2, rfl⟩
  obtain ⟨hi', hl', q1, q2, q3, q4⟩ := ends_m (r := r) (C := C) (hi := xu hi 90 31 (nI k)) (hl := xu hl 90 32 g) (v := b) (p := q) (y := if eVk E b = 8 then 8 else k) (x := (k, g)) hEA (hM.fr (xu_ne _ _ _ (by decide)) (xu_ne _ _ _ (by decide))) hb hq hy (by show k ≤ 10; omega) (xu_at _ _ _ _) (xu_at _ _ _ _)
  have last : F_X12_goes_292 (nI b) (nI q) 0 (nI k) (xu hi 90 31 (nI k)) (xu hl 90 32 g) r = some ((wrt E C b (q : Int) (k, g) (if eVk E b = 8 then 8 else k)).1, hi', hl', r) := by
    unfold F_X12_goes_292 F_X12_goes_316
    rw [if_pos (xok_t (by omega) (by decide)), cl_nI (by omega), b99']
    simp only [e8]
    by_cases c : eVk E b = 8
    · simp only [if_pos c] at q1 ⊢
      rw [show nI 8 = (8 : Int32) from rfl] at q1
      rw [q1, xbI_some]
    · simp only [if_neg c] at q1 ⊢
      rw [q1, xbI_some]
  simp only [k4]
  by_cases c4 : k ≤ 4
  · rw [if_pos c4, if_neg (by omega), last]
    exact ⟨hi', hl', rfl, q2, (mI.h _).trans q3, (mL.h _).trans q4⟩
  · have ein : F_X12_in g (-1152921504606846976 : Int64) (1152921504606846976 : Int64) = some (b1 (inE g)) := by
      rw [in_eq]
      unfold inE
      by_cases c : (-1152921504606846976 : Int64).toInt ≤ g.toInt ∧ g.toInt ≤ (1152921504606846976 : Int64).toInt
      · rw [if_pos c, b1_t c]
      · rw [if_neg c, b1_f c]
    rw [if_neg c4, xu_at, ein, xbP_some]
    by_cases c5 : b1 (inE g) = 0
    · rw [if_pos c5, if_pos ⟨by omega, c5⟩]
      exact ⟨_, _, rfl, hM.fr (xu_ne _ _ _ (by decide)) (xu_ne _ _ _ (by decide)), mI.h _, mL.h _⟩
    · rw [if_neg c5, if_neg (fun q => c5 q.2), last]
      exact ⟨hi', hl', rfl, q2, (mI.h _).trans q3, (mL.h _).trans q4⟩
theorem goes_m (h : EV nb nv vb E hi) (hM : MC nb C.1 C.2 hi hl) (hO : OKC nb (eBk E) C.1 C.2) {w a p b q : Nat} (hw : w ≤ 4) (ha : a < nv) (hp : p ≤ 100) (hb : b < nv) (hq : q ≤ 100) : ∃ hi' hl', F_X12_goes (nI w) (nI a) (nI p) (nI b) (nI q) 0 hi hl r = some ((stp E C w a (p : Int) b (q : Int)).1, hi', hl', r) ∧ MC nb (stp E C w a (p : Int) b (q : Int)).2.1 (stp E C w a (p : Int) b (q : Int)).2.2 hi' hl' ∧ mI hi hi' ∧ mL hl hl' := by
  obtain ⟨n8, n6, -, -, -, -, -, -, a99, ak8⟩ := ev_v h ha
  have w0 : (nI w = (0 : Int32)) = (w = 0) := nI_eq' (b := 0) (by omega) (by decide)
  have w4 : (nI w = (4 : Int32)) = (w = 4) := nI_eq' (b := 4) (by omega) (by decide)
  obtain ⟨a1, d1, q1, q2⟩ := read_m (hl := hl) (r := r) h ha hp
  unfold F_X12_goes stp
  rw [q1, xbI_some]
  rcases Classical.em (¬ rdc E a (p : Int) = 0) with c1 | c1'
  · simp only [if_neg c1]
    unfold F_X12_goes_33
    rw [if_neg c1]
    exact ⟨_, _, rfl, hM.fr (xu_ne _ _ _ (by decide)) (xu_ne _ _ _ (by decide)), mI.h _, mL.h _⟩
  have c1 : rdc E a (p : Int) = 0 := Classical.not_not.mp c1'
  have cx : ∀ v s, v < nv → rdc E v s = 0 → cix E v s < 12 * nb := by
    intro v s hv h0
    obtain ⟨x, ex, hb, ec⟩ := rdc_0 h hv h0
    rw [ec]
    exact (inb_ix h hv hb).1
  have hx := thg_ok h hO ha c1
  have hxk := thg_k (C := C) h ha (p : Int)
  obtain ⟨g1, g2⟩ := q2 c1 (C.1 (cix E a (p : Int)), C.2 (cix E a (p : Int))) (hM _ (cx a _ ha c1)).1 (hM _ (cx a _ ha c1)).2
  change a1 = nI (thg E C a (p : Int)).1 at g1
  change d1 = (thg E C a (p : Int)).2 at g2
  generalize thg E C a (p : Int) = x at hx hxk g1 g2
  subst g1 g2
  have hx1 := hx.1
  simp only [if_pos c1, w0, w4]
  rw [if_pos trivial]
  unfold F_X12_goes_45
  simp only [w0]
  have h1 : EV nb nv vb E (xu hi 90 31 (nI x.1)) := h.m (mI.h _)
  have hM1 : MC nb C.1 C.2 (xu hi 90 31 (nI x.1)) (xu hl 90 32 x.2) := hM.fr (xu_ne _ _ _ (by decide)) (xu_ne _ _ _ (by decide))
  by_cases c2 : w = 0
  · simp only [if_pos c2]
    obtain ⟨hi', hl', z1, z2, z3, z4⟩ := ends_m (r := r) (v := b) (p := q) (y := eVk E a) (x := x) h1 hM1 hb hq hxk (by omega) (xu_at _ _ _ _) (xu_at _ _ _ _)
    refine ⟨hi', hl', ?_, z2, (mI.h _).trans z3, (mL.h _).trans z4⟩
    rw [if_pos (xok_t (by omega) (by decide)), cl_nI (by omega), xu_ne2 _ _ (Or.inl (by decide)), a99, z1, xbI_some]
  simp only [if_neg c2]
  obtain ⟨a2, d2, q3, q4⟩ := read_m (hl := xu hl 90 32 x.2) (r := r) h1 hb hq
  rw [xu_xu, xu_xu] at q3
  rw [q3, xbI_some]
  rcases Classical.em (¬ rdc E b (q : Int) = 0) with c3 | c3'
  · simp only [if_neg c3]
    unfold F_X12_goes_114
    rw [if_neg c3]
    exact ⟨_, _, rfl, hM.fr (xu_ne _ _ _ (by decide)) (xu_ne _ _ _ (by decide)), mI.h _, mL.h _⟩
  have c3 : rdc E b (q : Int) = 0 := Classical.not_not.mp c3'
  have hz := thg_ok h hO hb c3
  have hzk := thg_k (C := C) h hb (q : Int)
  obtain ⟨g1, g2⟩ := q4 c3 (C.1 (cix E b (q : Int)), C.2 (cix E b (q : Int))) (hM1 _ (cx b _ hb c3)).1 (hM1 _ (cx b _ hb c3)).2
  change a2 = nI (thg E C b (q : Int)).1 at g1
  change d2 = (thg E C b (q : Int)).2 at g2
  generalize thg E C b (q : Int) = z at hz hzk g1 g2
  subst g1 g2
  have hz1 := hz.1
  simp only [if_pos c3]
  rw [if_pos trivial, xu_at, xu_at]
  unfold F_X12_goes_126
  simp only [w4]
  have h2 : EV nb nv vb E (xu hi 90 31 (nI z.1)) := h.m (mI.h _)
  have hM2 : MC nb C.1 C.2 (xu hi 90 31 (nI z.1)) (xu hl 90 32 z.2) := hM.fr (xu_ne _ _ _ (by decide)) (xu_ne _ _ _ (by decide))
  by_cases c4 : w = 4
  · simp only [if_pos c4]
    obtain ⟨hi', hl', z1, z2, z3, z4⟩ := swaps_m (r := r) (x := x) h2 hM2 ha hp hb hq (by omega) (by omega) hxk hzk (xu_at _ _ _ _) (xu_at _ _ _ _)
    exact ⟨hi', hl', by rw [z1, xbI_some], z2, (mI.h _).trans z3, (mL.h _).trans z4⟩
  simp only [if_neg c4]
  rw [xu_at, xu_at, xu_xu, summed_m (k := x.1) (by omega) (xu_at _ _ _ _), xbI_some, xu_xu, summed_m (k := z.1) (by omega) (xu_at _ _ _ _), xbI_some]
  unfold rck
  by_cases n1 : nt x.1 = 0
  · simp only [if_pos n1]
    by_cases n2 : nt z.1 = 0
    · simp only [if_pos n2]
      have kx := nt_0 hx n1
      have kz := nt_0 hz n2
      have kw := wdr_le kx.2 kz.2
      obtain ⟨hi', hl', z1, z2, z3, z4⟩ := reck_m (r := r) (w := w) (k := wdr x.1 z.1) (x := x) (z := z) h2 hM2 hw hb hq kw
      refine ⟨hi', hl', ?_, z2, (mI.h _).trans z3, (mL.h _).trans z4⟩
      rw [← z1]
      have s1 : (nI x.1 ≤ nI z.1) = (x.1 ≤ z.1) := nI_le' (by omega) (by omega)
      have s2 : ((4 : Int32) ≤ nI x.1) = (4 ≤ x.1) := nI_le' (a := 4) (by decide) (by omega)
      have s3 : ((4 : Int32) ≤ nI z.1) = (4 ≤ z.1) := nI_le' (a := 4) (by decide) (by omega)
      unfold F_X12_goes_192 F_X12_goes_216
      simp only [n2, s1, s2, s3]
      rw [if_pos trivial]
      by_cases d1 : x.1 ≤ z.1
      · rw [if_pos d1]
        by_cases d2 : 4 ≤ z.1
        · rw [if_pos d2, show wdr x.1 z.1 = z.1 by unfold wdr; omega]
        · rw [if_neg d2, show wdr x.1 z.1 = 4 by unfold wdr; omega]
          rfl
      · rw [if_neg d1]
        by_cases d2 : 4 ≤ x.1
        · rw [if_pos d2, show wdr x.1 z.1 = x.1 by unfold wdr; omega]
        · rw [if_neg d2, show wdr x.1 z.1 = 4 by unfold wdr; omega]
          rfl
    · simp only [if_neg n2]
      refine ⟨_, _, ?_, hM2, mI.h _, mL.h _⟩
      unfold F_X12_goes_192
      rw [if_neg n2]
  · simp only [if_neg n1]
    refine ⟨_, _, ?_, hM2, mI.h _, mL.h _⟩
    unfold F_X12_goes_192
    rw [if_neg n1]
/-- what is written may be there -/
theorem wrt_ok (h : EV nb nv vb E hi) (hO : OKC nb (eBk E) C.1 C.2) {v : Nat} (hv : v < nv) (p : Int) {x : Nat × Int64} (y : Nat) (hx : okt x) : OKC nb (eBk E) (wrt E C v p x y).2.1 (wrt E C v p x y).2.2 := by
  unfold wrt
  by_cases c : wrc E v p x.1 y = 0
  · rw [if_pos c]
    obtain ⟨i1, i2, i3, i4⟩ := wrc_ix h hv c
    intro k hk
    unfold updC
    by_cases e : k = cix E v p
    · simp only [if_pos e]
      have ok := okt_cup hx (dl E v)
      rw [e, i3]
      refine ⟨ok.1, fun h7 => ?_, ok.2.1, ok.2.2⟩
      unfold dl
      rw [cup_app]
      show (ent (eBk E (eBo E v)) _).1 = _
      rw [ent_1, if_pos h7]
    · simp only [if_neg e]
      exact hO k hk
  · rw [if_neg c]
    exact hO
theorem upd_ok (h : EV nb nv vb E hi) (hO : OKC nb (eBk E) C.1 C.2) {v : Nat} (hv : v < nv) {p : Int} {x : Nat × Int64} {y : Nat} (hx : okt x) (c : wrc E v p x.1 y = 0) : OKC nb (eBk E) (updC C (cix E v p) (cup (dl E v) x)).1 (updC C (cix E v p) (cup (dl E v) x)).2 := by
  have k := wrt_ok h hO hv p y hx
  unfold wrt at k
  rw [if_pos c] at k
  exact k
theorem stp_ok (h : EV nb nv vb E hi) (hO : OKC nb (eBk E) C.1 C.2) {w a b : Nat} (p q : Int) (ha : a < nv) (hb : b < nv) : OKC nb (eBk E) (stp E C w a p b q).2.1 (stp E C w a p b q).2.2 := by
  unfold stp
  by_cases c1 : rdc E a p = 0
  · rw [if_pos c1]
    have hx := thg_ok h hO ha c1
    by_cases c2 : w = 0
    · rw [if_pos c2]
      exact wrt_ok h hO hb q _ hx
    · rw [if_neg c2]
      by_cases c3 : rdc E b q = 0
      · rw [if_pos c3]
        have hz := thg_ok h hO hb c3
        by_cases c4 : w = 4
        · rw [if_pos c4]
          unfold swp
          by_cases c5 : wrc E b q (thg E C a p).1 (eVk E a) = 0
          · rw [if_pos c5]
            by_cases c6 : wrc E a p (thg E C b q).1 (eVk E b) = 0
            · rw [if_pos c6]
              exact upd_ok h (upd_ok h hO hb hx c5) ha hz c6
            · rw [if_neg c6]; exact hO
          · rw [if_neg c5]; exact hO
        · rw [if_neg c4]
          unfold rck
          by_cases n1 : nt (thg E C a p).1 = 0
          · rw [if_pos n1]
            by_cases n2 : nt (thg E C b q).1 = 0
            · rw [if_pos n2]
              have kw := wdr_le (nt_0 hx n1).2 (nt_0 hz n2).2
              by_cases c5 : 4 < wdr (thg E C a p).1 (thg E C b q).1 ∧ b1 (inE (rkn w (wdr (thg E C a p).1 (thg E C b q).1) (rnd (wdr (thg E C a p).1 (thg E C b q).1) (thg E C a p).2) (rnd (wdr (thg E C a p).1 (thg E C b q).1) (thg E C b q).2))) = 0
              · rw [if_pos c5]; exact hO
              · rw [if_neg c5]
                exact wrt_ok h hO hb q _ ⟨Or.inl kw.2, fun e => absurd e (by show ¬ wdr _ _ = 10; omega), rkn_r _ _ _ _⟩
            · rw [if_neg n2]; exact hO
          · rw [if_neg n1]; exact hO
      · rw [if_neg c3]; exact hO
  · rw [if_neg c1]; exact hO
end STEPN
