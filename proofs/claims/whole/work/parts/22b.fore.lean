section FOREM
variable {hi : Nat → Nat → Int32} {hl : Nat → Nat → Int64} {r : xRr} {nb nv : Nat} {vb : Nat → Nat} {E : yE} {C : yC}
theorem ends1_m (h : EV nb nv vb E hi) {v p y : Nat} {x : Nat × Int64} (hv : v < nv) (hp : p ≤ 100) (hy : y = 8 ∨ (y ≤ 7 ∧ x.1 = y)) (hx : x.1 ≤ 10) (e1 : hi 90 31 = nI x.1) (e2 : hl 90 32 = x.2) : ∃ a d t, F_X12_ends (nI v) (nI p) (nI y) 1 hi hl r = some (wrc E v (p : Int) x.1 y, xu (xu hi 90 31 a) 90 33 t, xu hl 90 32 d, r) := by
  obtain ⟨a, d, t, q1, -⟩ := write_m (r := r) h hv hp hy hx e1 e2
  refine ⟨a, d, t, ?_⟩
  unfold F_X12_ends
  rw [q1, xbI_some]
  by_cases c : wrc E v (p : Int) x.1 y = 0
  · rw [if_pos c, if_neg (by decide)]
  · rw [if_neg c]
/-- scratch of the hand alone -/
def mH (hi hi' : Nat → Nat → Int32) : Prop := (∀ a, a ≠ 90 → hi' a = hi a) ∧ ∀ j, j ∉ [31, 33] → hi' 90 j = hi 90 j
def mHL (hl hl' : Nat → Nat → Int64) : Prop := (∀ a, a ≠ 90 → hl' a = hl a) ∧ ∀ j, j ≠ 32 → hl' 90 j = hl 90 j
theorem mH.trans {h1 h2 h3 : Nat → Nat → Int32} (a : mH h1 h2) (b : mH h2 h3) : mH h1 h3 := ⟨fun x p => (b.1 x p).trans (a.1 x p), fun j p => (b.2 j p).trans (a.2 j p)⟩
theorem mHL.trans {h1 h2 h3 : Nat → Nat → Int64} (a : mHL h1 h2) (b : mHL h2 h3) : mHL h1 h3 := ⟨fun x p => (b.1 x p).trans (a.1 x p), fun j p => (b.2 j p).trans (a.2 j p)⟩
theorem mH.k (hi : Nat → Nat → Int32) (v : Int32) : mH hi (xu hi 90 31 v) := ⟨fun a ha => xu_ne _ _ _ ha, fun j hj => xu_ne2 _ _ (Or.inr (nDe hj (by decide)))⟩
theorem mH.t (hi : Nat → Nat → Int32) (v : Int32) : mH hi (xu hi 90 33 v) := ⟨fun a ha => xu_ne _ _ _ ha, fun j hj => xu_ne2 _ _ (Or.inr (nDe hj (by decide)))⟩
theorem mHL.k (hl : Nat → Nat → Int64) (v : Int64) : mHL hl (xu hl 90 32 v) := ⟨fun a ha => xu_ne _ _ _ ha, fun j hj => xu_ne2 _ _ (Or.inr hj)⟩
theorem mH.I {h1 h2 : Nat → Nat → Int32} (a : mH h1 h2) : mI h1 h2 := ⟨fun x p => a.1 x (nDe p (by decide)), a.2⟩
theorem thg_kr (h : EV nb nv vb E hi) (hO : OKC nb (eBk E) C.1 C.2) {v : Nat} (hv : v < nv) {p : Int} (h0 : rdc E v p = 0) (h7 : eBk E (eBo E v) ≤ 7) : (thg E C v p).1 = kr E v := by
  obtain ⟨x, ex, hb, ec⟩ := rdc_0 h hv h0
  obtain ⟨i1, i2, i3, -⟩ := inb_ix h hv hb
  rw [← ec] at i1 i3
  unfold thg kr
  rw [cup_krk]
  have := (hO _ i1).2.1
  rw [i3] at this
  show krk (kl E v) (C.1 (cix E v p)) = _
  rw [this h7]
theorem goes1_m (h : EV nb nv vb E hi) (hM : MC nb C.1 C.2 hi hl) (hO : OKC nb (eBk E) C.1 C.2) {w a p b q : Nat} (hw : w ≤ 4) (ha : a < nv) (hp : p ≤ 100) (hb : b < nv) (hq : q ≤ 100) : ∃ hi' hl', F_X12_goes (nI w) (nI a) (nI p) (nI b) (nI q) 1 hi hl r = some (fcd E w a (p : Int) b (q : Int), hi', hl', r) ∧ mH hi hi' ∧ mHL hl hl' := by
  obtain ⟨n8, n6, -, abo, -, -, -, -, a99, ak8⟩ := ev_v h ha
  obtain ⟨-, -, -, bbo, -, -, -, -, b99, bk8⟩ := ev_v h hb
  have w0' : (nI w = (0 : Int32)) = (w = 0) := nI_eq' (b := 0) (by omega) (by decide)
  have w4 : (nI w = (4 : Int32)) = (w = 4) := nI_eq' (b := 4) (by omega) (by decide)
  have cx : ∀ v s, v < nv → rdc E v s = 0 → cix E v s < 12 * nb := by
    intro v s hv h0
    obtain ⟨x, ex, hb, ec⟩ := rdc_0 h hv h0
    rw [ec]
    exact (inb_ix h hv hb).1
  obtain ⟨a1, d1, q1, q2⟩ := read_m (hl := hl) (r := r) h ha hp
  unfold F_X12_goes fcd
  rw [q1, xbI_some]
  by_cases c1 : rdc E a (p : Int) = 0
  rotate_left
  · simp only [if_neg c1]
    unfold F_X12_goes_33
    rw [if_neg c1]
    exact ⟨_, _, rfl, mH.k _ _, mHL.k _ _⟩
  simp only [if_pos c1]
  have h1 : EV nb nv vb E (xu hi 90 31 a1) := h.m (mI.h _)
  have bA := (ev_b h1 ha).2.2.2.2.1
  have ba12 := (ev_b h1 ha).1
  have e8 : (nI (eBk E (eBo E a)) < (8 : Int32)) = (eBk E (eBo E a) < 8) := nI_lt' (b := 8) (by omega) (by decide)
  rw [if_neg (by decide), bank_mn h1 ha, xbI_some, if_pos (xok_t (by omega) (by decide)), cl_nI (by omega), bA]
  simp only [e8]
  by_cases k1 : 8 ≤ eBk E (eBo E a)
  · simp only [if_pos k1, if_neg (show ¬ eBk E (eBo E a) < 8 by omega)]
    unfold F_X12_goes_33
    rw [if_pos c1]
    exact ⟨_, _, rfl, mH.k _ _, mHL.k _ _⟩
  simp only [if_neg k1, if_pos (show eBk E (eBo E a) < 8 by omega)]
  have hx := thg_ok h hO ha c1
  have hxk := thg_k (C := C) h ha (p : Int)
  have ekx := thg_kr h hO ha c1 (by omega)
  obtain ⟨g1, g2⟩ := q2 c1 (C.1 (cix E a (p : Int)), C.2 (cix E a (p : Int))) (hM _ (cx a _ ha c1)).1 (hM _ (cx a _ ha c1)).2
  change a1 = nI (thg E C a (p : Int)).1 at g1
  change d1 = (thg E C a (p : Int)).2 at g2
  generalize thg E C a (p : Int) = x at hx hxk g1 g2 ekx
  subst g1 g2
  have hx1 := hx.1
  rw [← ekx]
  have hM1 : MC nb C.1 C.2 (xu hi 90 31 (nI x.1)) (xu hl 90 32 x.2) := hM.fr (xu_ne _ _ _ (by decide)) (xu_ne _ _ _ (by decide))
  unfold F_X12_goes_45
  simp only [w0']
  by_cases c2 : w = 0
  · simp only [if_pos c2]
    obtain ⟨a', d', t', z1⟩ := ends1_m (r := r) (v := b) (p := q) (y := eVk E a) (x := x) h1 hb hq hxk (by omega) (xu_at _ _ _ _) (xu_at _ _ _ _)
    refine ⟨_, _, ?_, (mH.k hi a').trans (mH.t _ t'), mHL.k hl d'⟩
    rw [if_pos (xok_t (by omega) (by decide)), cl_nI (by omega), xu_ne2 _ _ (Or.inl (by decide)), a99, z1, xbI_some, xu_xu, xu_xu]
  simp only [if_neg c2]
  obtain ⟨a2, d2, q3, q4⟩ := read_m (hl := xu hl 90 32 x.2) (r := r) h1 hb hq
  rw [xu_xu, xu_xu] at q3
  rw [q3, xbI_some]
  by_cases c3 : rdc E b (q : Int) = 0
  rotate_left
  · simp only [if_neg c3]
    unfold F_X12_goes_114
    rw [if_neg c3]
    exact ⟨_, _, rfl, mH.k _ _, mHL.k _ _⟩
  simp only [if_pos c3]
  have h2 : EV nb nv vb E (xu hi 90 31 a2) := h.m (mI.h _)
  have bB := (ev_b h2 hb).2.2.2.2.1
  have bb12 := (ev_b h2 hb).1
  have e8b : (nI (eBk E (eBo E b)) < (8 : Int32)) = (eBk E (eBo E b) < 8) := nI_lt' (b := 8) (by omega) (by decide)
  rw [if_neg (by decide), bank_mn h2 hb, xbI_some, if_pos (xok_t (by omega) (by decide)), cl_nI (by omega), bB, xu_at, xu_at]
  simp only [e8b]
  by_cases k2 : 8 ≤ eBk E (eBo E b)
  · simp only [if_pos k2, if_neg (show ¬ eBk E (eBo E b) < 8 by omega)]
    unfold F_X12_goes_114
    rw [if_pos c3]
    exact ⟨_, _, rfl, mH.k _ _, mHL.k _ _⟩
  simp only [if_neg k2, if_pos (show eBk E (eBo E b) < 8 by omega)]
  have hz := thg_ok h hO hb c3
  have hzk := thg_k (C := C) h hb (q : Int)
  have ekz := thg_kr h hO hb c3 (by omega)
  obtain ⟨g1, g2⟩ := q4 c3 (C.1 (cix E b (q : Int)), C.2 (cix E b (q : Int))) (hM1 _ (cx b _ hb c3)).1 (hM1 _ (cx b _ hb c3)).2
  change a2 = nI (thg E C b (q : Int)).1 at g1
  change d2 = (thg E C b (q : Int)).2 at g2
  generalize thg E C b (q : Int) = z at hz hzk g1 g2 ekz
  subst g1 g2
  have hz1 := hz.1
  rw [← ekz]
  unfold F_X12_goes_126
  simp only [w4]
  by_cases c4 : w = 4
  · simp only [if_pos c4]
    obtain ⟨a3, d3, t3, z1, -⟩ := write_m (hi := xu hi 90 31 (nI x.1)) (hl := xu hl 90 32 x.2) (r := r) (v := b) (p := q) (y := eVk E a) (x := x) (h.m (mI.h _)) hb hq hxk (by omega) (xu_at _ _ _ _) (xu_at _ _ _ _)
    rw [xu_xu, xu_xu] at z1
    unfold F_X12_swaps
    rw [if_pos (xok_t (by omega) (by decide)), cl_nI (by omega), xu_xu, xu_xu, xu_ne2 _ _ (Or.inl (by decide)), a99, z1, xbI_some]
    by_cases c5 : wrc E b (q : Int) x.1 (eVk E a) = 0
    · simp only [if_pos c5]
      have h3 : EV nb nv vb E (xu (xu (xu hi 90 31 a3) 90 33 t3) 90 31 (nI z.1)) := ((h.m (mI.h _)).m (mI.t _)).m (mI.h _)
      obtain ⟨a4, d4, t4, z2, -⟩ := write_m (hi := xu (xu (xu hi 90 31 a3) 90 33 t3) 90 31 (nI z.1)) (hl := xu (xu hl 90 32 d3) 90 32 z.2) (r := r) (v := a) (p := p) (y := eVk E b) (x := z) h3 ha hp hzk (by omega) (xu_at _ _ _ _) (xu_at _ _ _ _)
      rw [if_pos (xok_t (by omega) (by decide)), cl_nI (by omega), xu_at, xu_at, xu_ne2 _ _ (Or.inl (by decide)), xu_ne2 _ _ (Or.inl (by decide)), xu_ne2 _ _ (Or.inl (by decide)), b99, z2, xbI_some]
      refine ⟨_, _, ?_, ((((mH.k hi a3).trans (mH.t _ t3)).trans (mH.k _ (nI z.1))).trans (mH.k _ a4)).trans (mH.t _ t4), ((mHL.k hl d3).trans (mHL.k _ z.2)).trans (mHL.k _ d4)⟩
      by_cases c6 : wrc E a (p : Int) z.1 (eVk E b) = 0
      · rw [if_pos c6, if_neg (by decide), xbI_some]
      · rw [if_neg c6, xbI_some]
    · simp only [if_neg c5]
      rw [xbI_some]
      exact ⟨_, _, rfl, (mH.k hi a3).trans (mH.t _ t3), mHL.k hl d3⟩
  simp only [if_neg c4]
  rw [xu_at, xu_at, xu_xu, summed_m (k := x.1) (by omega) (xu_at _ _ _ _), xbI_some, xu_xu, summed_m (k := z.1) (by omega) (xu_at _ _ _ _), xbI_some]
  by_cases n1 : nt x.1 = 0
  rotate_left
  · simp only [if_neg n1]
    unfold F_X12_goes_192
    rw [if_neg n1]
    exact ⟨_, _, rfl, mH.k _ _, mHL.k _ _⟩
  simp only [if_pos n1]
  by_cases n2 : nt z.1 = 0
  rotate_left
  · simp only [if_neg n2]
    unfold F_X12_goes_192
    rw [if_neg n2]
    exact ⟨_, _, rfl, mH.k _ _, mHL.k _ _⟩
  simp only [if_pos n2]
  have kx := nt_0 hx n1
  have kz := nt_0 hz n2
  have kw := wdr_le kx.2 kz.2
  have s1 : (nI x.1 ≤ nI z.1) = (x.1 ≤ z.1) := nI_le' (by omega) (by omega)
  have s2 : ((4 : Int32) ≤ nI x.1) = (4 ≤ x.1) := nI_le' (a := 4) (by decide) (by omega)
  have s3 : ((4 : Int32) ≤ nI z.1) = (4 ≤ z.1) := nI_le' (a := 4) (by decide) (by omega)
  have e192 : F_X12_goes_192 (nI w) (nI b) (nI q) 1 (nI x.1) x.2 (nI z.1) z.2 0 (xu hi 90 31 (nI z.1)) (xu hl 90 32 z.2) r = F_X12_goes_230 (nI w) (nI b) (nI q) 1 x.2 z.2 (nI (wdr x.1 z.1)) (xu hi 90 31 (nI z.1)) (xu hl 90 32 z.2) r := by
    unfold F_X12_goes_192 F_X12_goes_216
    simp only [s1, s2, s3]
    rw [if_pos trivial]
    by_cases d1 : x.1 ≤ z.1
    · rw [if_pos d1]
      by_cases d2 : 4 ≤ z.1
      · rw [if_pos d2, show wdr x.1 z.1 = z.1 by unfold wdr; omega]
      · rw [if_neg d2, show wdr x.1 z.1 = 4 by unfold wdr; omega]
        rfl
    · rw [if_neg d1]
      by_cases d2 : 4 ≤ x.1
      · rw [if_pos d2, show wdr x.1 z.1 = x.1 by unfold wdr; omega]
      · rw [if_neg d2, show wdr x.1 z.1 = 4 by unfold wdr; omega]
        rfl
  rw [n2, e192]
  generalize wdr x.1 z.1 = k at kw
  unfold F_X12_goes_230
  rw [as_m k (by omega), as_m k (by omega), xbP_some, xbP_some, reckoned_m hw (by omega), xbP_some, if_neg (by decide), xu_xu, xu_xu]
  generalize rkn w k (rnd k x.2) (rnd k z.2) = g
  have b99' : (xu hi 90 31 (nI k)) 99 b = nI (eVk E b) := by rw [xu_ne2 _ _ (Or.inl (by decide))]; exact b99
  have e8v : (nI (eVk E b) = (8 : Int32)) = (eVk E b = 8) := nI_eq' (b := 8) (by omega) (by decide)
  have hy : (if eVk E b = 8 then 8 else k) = 8 ∨ ((if eVk E b = 8 then 8 else k) ≤ 7 ∧ (k, g).1 = (if eVk E b = 8 then 8 else k)) := by
    by_cases c : eVk E b = 8
    · rw [if_pos c]; exact Or.inl rfl
    · rw [if_neg c]; exact Or.inr ⟨kw.2, rfl⟩
  obtain ⟨a', d', t', z1⟩ := ends1_m (r := r) (hi := xu hi 90 31 (nI k)) (hl := xu hl 90 32 g) (v := b) (p := q) (y := if eVk E b = 8 then 8 else k) (x := (k, g)) (h.m (mI.h _)) hb hq hy (by show k ≤ 10; omega) (xu_at _ _ _ _) (xu_at _ _ _ _)
  rw [xu_xu, xu_xu] at z1
  refine ⟨_, _, ?_, (mH.k hi a').trans (mH.t _ t'), mHL.k hl d'⟩
  unfold F_X12_goes_292 F_X12_goes_316
  rw [if_pos (xok_t (by omega) (by decide)), cl_nI (by omega), b99']
  simp only [e8v]
  by_cases c : eVk E b = 8
  · simp only [if_pos c] at z1 ⊢
    rw [show nI 8 = (8 : Int32) from rfl] at z1
    rw [z1, xbI_some]
  · simp only [if_neg c] at z1 ⊢
    rw [z1, xbI_some]
end FOREM
