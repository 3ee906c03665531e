/-! the same step by the reference -/
def mI (hi hi' : Nat → Nat → Int32) : Prop := (∀ a, a ∉ [90, 93] → hi' a = hi a) ∧ ∀ j, j ∉ [31, 33] → hi' 90 j = hi 90 j
def mL (hl hl' : Nat → Nat → Int64) : Prop := (∀ a, a ∉ [90, 94] → hl' a = hl a) ∧ ∀ j, j ≠ 32 → hl' 90 j = hl 90 j
theorem mI.rf {hi : Nat → Nat → Int32} : mI hi hi := ⟨fun _ _ => rfl, fun _ _ => rfl⟩
theorem mL.rf {hl : Nat → Nat → Int64} : mL hl hl := ⟨fun _ _ => rfl, fun _ _ => rfl⟩
theorem mI.trans {h1 h2 h3 : Nat → Nat → Int32} (a : mI h1 h2) (b : mI h2 h3) : mI h1 h3 := ⟨fun x p => (b.1 x p).trans (a.1 x p), fun j p => (b.2 j p).trans (a.2 j p)⟩
theorem mL.trans {h1 h2 h3 : Nat → Nat → Int64} (a : mL h1 h2) (b : mL h2 h3) : mL h1 h3 := ⟨fun x p => (b.1 x p).trans (a.1 x p), fun j p => (b.2 j p).trans (a.2 j p)⟩
theorem mI.h {hi : Nat → Nat → Int32} (v : Int32) : mI hi (xu hi 90 31 v) := ⟨fun a ha => xu_ne _ _ _ (by simp at ha; omega), fun j hj => xu_ne2 _ _ (Or.inr (by simp at hj; omega))⟩
theorem mI.t {hi : Nat → Nat → Int32} (v : Int32) : mI hi (xu hi 90 33 v) := ⟨fun a ha => xu_ne _ _ _ (by simp at ha; omega), fun j hj => xu_ne2 _ _ (Or.inr (by simp at hj; omega))⟩
theorem mI.c {hi : Nat → Nat → Int32} (c : Nat) (v : Int32) : mI hi (xu hi 93 c v) := ⟨fun a ha => xu_ne _ _ _ (by simp at ha; omega), fun j _ => xu_ne2 _ _ (Or.inl (by decide))⟩
theorem mL.h {hl : Nat → Nat → Int64} (v : Int64) : mL hl (xu hl 90 32 v) := ⟨fun a ha => xu_ne _ _ _ (by simp at ha; omega), fun j hj => xu_ne2 _ _ (Or.inr hj)⟩
theorem mL.c {hl : Nat → Nat → Int64} (c : Nat) (v : Int64) : mL hl (xu hl 94 c v) := ⟨fun a ha => xu_ne _ _ _ (by simp at ha; omega), fun j _ => xu_ne2 _ _ (Or.inl (by decide))⟩
section STEPM
variable {hi : Nat → Nat → Int32} {hl : Nat → Nat → Int64} {r : xRr} {nb nv : Nat} {vb : Nat → Nat} {E : yE} {C : yC}
theorem EV.m {hi' : Nat → Nat → Int32} (h : EV nb nv vb E hi) (a : mI hi hi') : EV nb nv vb E hi' :=
  h.fr (fun x hx => a.1 x (fun e => by
    simp only [List.mem_cons, List.not_mem_nil, or_false] at e
    rcases e with rfl | rfl
    · exact absurd hx (by decide)
    · exact absurd hx (by decide))) (a.2 1 (by decide)) (a.2 6 (by decide))
theorem put_m {c : Nat} {z : Nat × Int64} (hc : c < 72) (e1 : hi 90 31 = nI z.1) (e2 : hl 90 32 = z.2) : F_X12_put (nI c) hi hl r = some (xu hi 93 c (nI z.1), xu hl 94 c z.2, r) := by
  unfold F_X12_put
  rw [if_pos (xok_t hc (by decide)), cl_nI (by omega), e1, e2]
theorem wrc_ix (h : EV nb nv vb E hi) {v : Nat} (hv : v < nv) {p : Int} {th y : Nat} (h0 : wrc E v p th y = 0) : cix E v p < 72 ∧ cix E v p < 12 * nb ∧ cix E v p / 12 = eBo E v ∧ eBk E (eBo E v) ≤ 10 := by
  obtain ⟨x, -, hb, ec, -⟩ := wrc_0 h0
  obtain ⟨i1, i2, i3, -, -, i6⟩ := inb_ix h hv hb
  rw [ec]
  exact ⟨i2, i1, i3, i6⟩
theorem ends_m (h : EV nb nv vb E hi) (hM : MC nb C.1 C.2 hi hl) {v p y : Nat} {x : Nat × Int64} (hv : v < nv) (hp : p ≤ 100) (hy : y = 8 ∨ (y ≤ 7 ∧ x.1 = y)) (hx : x.1 ≤ 10) (e1 : hi 90 31 = nI x.1) (e2 : hl 90 32 = x.2) : ∃ hi' hl', F_X12_ends (nI v) (nI p) (nI y) 0 hi hl r = some ((wrt E C v (p : Int) x y).1, hi', hl', r) ∧ MC nb (wrt E C v (p : Int) x y).2.1 (wrt E C v (p : Int) x y).2.2 hi' hl' ∧ mI hi hi' ∧ mL hl hl' := by
  obtain ⟨a, d, t, q1, q2⟩ := write_m (r := r) h hv hp hy hx e1 e2
  unfold F_X12_ends wrt
  rw [q1, xbI_some]
  by_cases c : wrc E v (p : Int) x.1 y = 0
  · simp only [if_pos c]
    obtain ⟨rfl, rfl, rfl⟩ := q2 c
    have kp := put_m (hi := xu (xu hi 90 31 (nI (cup (dl E v) x).1)) 90 33 (nI (cix E v (p : Int)))) (hl := xu hl 90 32 (cup (dl E v) x).2) (r := r) (wrc_ix h hv c).1 (by rw [xu_ne2 _ _ (Or.inr (by decide)), xu_at]) (xu_at _ _ _ _)
    refine ⟨_, _, ?_, (hM.fr (hi' := xu (xu hi 90 31 (nI (cup (dl E v) x).1)) 90 33 (nI (cix E v (p : Int)))) (hl' := xu hl 90 32 (cup (dl E v) x).2) ?_ ?_).u (cix E v (p : Int)) (cup (dl E v) x), ((mI.h _).trans (mI.t _)).trans (mI.c _ _), (mL.h _).trans (mL.c _ _)⟩
    · rw [if_pos trivial, xu_at, kp, xbV_some, c]
    · rw [xu_ne _ _ _ (by decide), xu_ne _ _ _ (by decide)]
    · rw [xu_ne _ _ _ (by decide)]
  · simp only [if_neg c]
    refine ⟨_, _, rfl, hM.fr ?_ ?_, (mI.h _).trans (mI.t _), mL.h _⟩
    · rw [xu_ne _ _ _ (by decide), xu_ne _ _ _ (by decide)]
    · rw [xu_ne _ _ _ (by decide)]
theorem swaps_m (h : EV nb nv vb E hi) (hM : MC nb C.1 C.2 hi hl) {a p b q : Nat} {x z : Nat × Int64} (ha : a < nv) (hp : p ≤ 100) (hb : b < nv) (hq : q ≤ 100) (hx : x.1 ≤ 10) (hz : z.1 ≤ 10) (hya : eVk E a = 8 ∨ (eVk E a ≤ 7 ∧ x.1 = eVk E a)) (hyb : eVk E b = 8 ∨ (eVk E b ≤ 7 ∧ z.1 = eVk E b)) (e3 : hi 90 31 = nI z.1) (e4 : hl 90 32 = z.2) : ∃ hi' hl', F_X12_swaps (nI a) (nI p) (nI b) (nI q) (nI x.1) x.2 0 hi hl r = some ((swp E C a (p : Int) b (q : Int) x z).1, hi', hl', r) ∧ MC nb (swp E C a (p : Int) b (q : Int) x z).2.1 (swp E C a (p : Int) b (q : Int) x z).2.2 hi' hl' ∧ mI hi hi' ∧ mL hl hl' := by
  obtain ⟨n8, n6, -, -, -, -, -, -, a99, ak8⟩ := ev_v h ha
  obtain ⟨-, -, -, -, -, -, -, -, b99, bk8⟩ := ev_v h hb
  obtain ⟨a1, d1, t1, q1, q2⟩ := write_m (hi := xu hi 90 31 (nI x.1)) (hl := xu hl 90 32 x.2) (r := r) (v := b) (p := q) (y := eVk E a) (x := x) (h.m (mI.h _)) hb hq hya hx (xu_at _ _ _ _) (xu_at _ _ _ _)
  rw [xu_xu, xu_xu] at q1
  unfold F_X12_swaps swp
  rw [if_pos (xok_t (by omega) (by decide)), cl_nI (by omega), xu_ne2 _ _ (Or.inl (by decide)), a99, q1, xbI_some]
  have mA : mI hi (xu (xu hi 90 31 a1) 90 33 t1) := (mI.h _).trans (mI.t _)
  by_cases c : wrc E b (q : Int) x.1 (eVk E a) = 0
  · obtain ⟨rfl, rfl, rfl⟩ := q2 c
    simp only [if_pos c]
    generalize hA : xu (xu hi 90 31 (nI (cup (dl E b) x).1)) 90 33 (nI (cix E b (q : Int))) = hiA at mA
    generalize hB : xu hl 90 32 (cup (dl E b) x).2 = hlA
    have mB : mL hl hlA := by rw [← hB]; exact mL.h _
    have hEA : EV nb nv vb E (xu hiA 90 31 (nI z.1)) := h.m (mA.trans (mI.h _))
    obtain ⟨a2, d2, t2, q3, q4⟩ := write_m (hi := xu hiA 90 31 (nI z.1)) (hl := xu hlA 90 32 z.2) (r := r) (v := a) (p := p) (y := eVk E b) (x := z) hEA ha hp hyb hz (xu_at _ _ _ _) (xu_at _ _ _ _)
    rw [xu_xu, xu_xu] at q3
    have b99' : (xu hiA 90 31 (nI z.1)) 99 b = nI (eVk E b) := by rw [xu_ne2 _ _ (Or.inl (by decide)), mA.1 99 (by decide)]; exact b99
    rw [if_pos (xok_t (by omega) (by decide)), cl_nI (by omega), e3, e4, b99', q3, xbI_some]
    have g93 : (xu (xu hiA 90 31 a2) 90 33 t2) 93 = hi 93 := by rw [xu_ne _ _ _ (by decide), xu_ne _ _ _ (by decide), ← hA, xu_ne _ _ _ (by decide), xu_ne _ _ _ (by decide)]
    have g94 : (xu hlA 90 32 d2) 94 = hl 94 := by rw [xu_ne _ _ _ (by decide), ← hB, xu_ne _ _ _ (by decide)]
    by_cases d : wrc E a (p : Int) z.1 (eVk E b) = 0
    · obtain ⟨rfl, rfl, rfl⟩ := q4 d
      simp only [if_pos d]
      have iA := (wrc_ix h hb c).1
      have iB := (wrc_ix h ha d).1
      have A33 : hiA 90 33 = nI (cix E b (q : Int)) := by rw [← hA, xu_at]
      have A31 : hiA 90 31 = nI (cup (dl E b) x).1 := by rw [← hA, xu_ne2 _ _ (Or.inr (by decide)), xu_at]
      have A32 : hlA 90 32 = (cup (dl E b) x).2 := by rw [← hB, xu_at]
      have hM1 := (hM.fr g93 g94).u (cix E b (q : Int)) (cup (dl E b) x)
      generalize hD : xu (xu (xu hiA 90 31 (nI (cup (dl E a) z).1)) 90 33 (nI (cix E a (p : Int)))) 93 (cix E b (q : Int)) (nI (cup (dl E b) x).1) = hiD at hM1
      generalize hDl : xu (xu hlA 90 32 (cup (dl E a) z).2) 94 (cix E b (q : Int)) (cup (dl E b) x).2 = hlD at hM1
      have D33 : hiD 90 33 = nI (cix E a (p : Int)) := by rw [← hD, xu_ne2 _ _ (Or.inl (by decide)), xu_at]
      have D31 : hiD 90 31 = nI (cup (dl E a) z).1 := by rw [← hD, xu_ne2 _ _ (Or.inl (by decide)), xu_ne2 _ _ (Or.inr (by decide)), xu_at]
      have D32 : hlD 90 32 = (cup (dl E a) z).2 := by rw [← hDl, xu_ne2 _ _ (Or.inl (by decide)), xu_at]
      have kp := put_m (hi := hiD) (hl := hlD) (r := r) iB D31 D32
      refine ⟨_, _, ?_, hM1.u (cix E a (p : Int)) (cup (dl E a) z), (mA.trans ?_).trans (mI.c _ _), (mB.trans ?_).trans (mL.c _ _)⟩
      · rw [if_pos trivial, A33, if_pos (xok_t iA (by decide)), cl_nI (by omega), A31, A32, hD, hDl, D33, kp, xbV_some]
      · rw [← hD]
        exact ((mI.h _).trans (mI.t _)).trans (mI.c _ _)
      · rw [← hDl]
        exact (mL.h _).trans (mL.c _ _)
    · simp only [if_neg d]
      exact ⟨_, _, rfl, hM.fr g93 g94, mA.trans ((mI.h _).trans (mI.t _)), mB.trans (mL.h _)⟩
  · simp only [if_neg c]
    refine ⟨_, _, rfl, hM.fr ?_ ?_, mA, mL.h _⟩
    · rw [xu_ne _ _ _ (by decide), xu_ne _ _ _ (by decide)]
    · rw [xu_ne _ _ _ (by decide)]
theorem summed_m {k : Nat} (hk : k ≤ 10) (e : hi 90 31 = nI k) : F_X12_summed hi hl r = some (nt k, hi, hl, r) := by
  have k10 : (nI k = (10 : Int32)) = (k = 10) := nI_eq' (b := 10) (by omega) (by decide)
  have k9 : (nI k = (9 : Int32)) = (k = 9) := nI_eq' (b := 9) (by omega) (by decide)
  have k0 : (nI k = (0 : Int32)) = (k = 0) := nI_eq' (b := 0) (by omega) (by decide)
  unfold F_X12_summed F_X12_summed_30 nt
  rw [e]
  simp only [k10, k9, k0]
  by_cases c1 : k = 10
  · rw [if_pos c1, if_pos c1]
  · rw [if_neg c1, if_neg c1]
    by_cases c2 : k = 9
    · rw [if_pos c2, if_pos (Or.inl c2)]
    · rw [if_neg c2]
      by_cases c3 : k = 0
      · rw [if_pos c3, if_pos (Or.inr c3)]
      · rw [if_neg c3, if_neg (by omega)]
theorem thg_k (h : EV nb nv vb E hi) {v : Nat} (hv : v < nv) (p : Int) : eVk E v = 8 ∨ (eVk E v ≤ 7 ∧ (thg E C v p).1 = eVk E v) := by
  have k8 := (ev_v h hv).2.2.2.2.2.2.2.2.2
  by_cases c : eVk E v = 8
  · exact Or.inl c
  · refine Or.inr ⟨by omega, ?_⟩
    unfold thg kl
    rw [ch_last h hv, List.map_append, cup_app]
    show (ent (eVk E v) _).1 = _
    rw [ent_1, if_pos (by omega)]
end STEPM
