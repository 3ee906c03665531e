/-! all are read first -/
def rbs (E : yE) (a : Nat) : Nat → Nat
  | 0 => 0
  | i + 1 => if rdc E a (i : Int) = 0 then rbs E a i else rbs E a i ||| 2 ^ i
def cp2 (E : yE) (a b : Nat) (X : Nat → Nat × Int64) : Nat → Nat → Nat × yC → Nat × yC
  | 0, _, z => z
  | k + 1, i, z => cp2 E a b X k (i + 1) (if z.1.testBit i = true then z else (if (wrt E z.2 b (i : Int) (X i) (eVk E a)).1 = 0 then z.1 else z.1 ||| 2 ^ i, (wrt E z.2 b (i : Int) (X i) (eVk E a)).2))
theorem rbs_lt (E : yE) (a : Nat) : ∀ i, i ≤ 12 → rbs E a i < 2 ^ 12 := by
  intro i
  induction i with
  | zero => intro _; show 0 < 2 ^ 12; decide
  | succ i ih =>
    intro h
    unfold rbs
    by_cases c : rdc E a (i : Int) = 0
    · rw [if_pos c]; exact ih (by omega)
    · rw [if_neg c]; exact Nat.or_lt_two_pow (ih (by omega)) (Nat.pow_lt_pow_right (by decide) (by omega))
theorem rbs_bit (E : yE) (a : Nat) : ∀ (i p : Nat), p < i → rdc E a (p : Int) ≠ 0 → (rbs E a i).testBit p = true := by
  intro i
  induction i with
  | zero => intro p hp; omega
  | succ i ih =>
    intro p hp hr
    unfold rbs
    by_cases e : p = i
    · subst e
      rw [if_neg hr, Nat.testBit_or, Nat.testBit_two_pow_self, Bool.or_true]
    · have k := ih p (by omega) hr
      by_cases c : rdc E a (i : Int) = 0
      · rw [if_pos c]; exact k
      · rw [if_neg c, Nat.testBit_or, k, Bool.true_or]
theorem isTh_r : ∀ p, p < 12 → isTh (18 + p) := by
  unfold isTh
  decide
theorem xhr17 (r : xRr) {p : Nat} (hp : p < 12) : xhr r 17 p = some (18 + p) := by
  unfold xhr
  rw [if_neg (by omega), if_neg (by decide), if_pos rfl, if_pos hp]
section COPY2
variable {r : xRr} {nb nv : Nat} {vb : Nat → Nat} {E : yE}
theorem cp2_ok {hi : Nat → Nat → Int32} (h : EV nb nv vb E hi) {a b m : Nat} (hb : b < nv) {X : Nat → Nat × Int64} (hX : ∀ p, p < m → rdc E a (p : Int) = 0 → okt (X p)) : ∀ k i (z : Nat × yC), i + k = m → (∀ p, i ≤ p → p < m → rdc E a (p : Int) ≠ 0 → z.1.testBit p = true) → OKC nb (eBk E) z.2.1 z.2.2 → OKC nb (eBk E) (cp2 E a b X k i z).2.1 (cp2 E a b X k i z).2.2 := by
  intro k
  induction k with
  | zero => intro i z _ _ hO; exact hO
  | succ k ih =>
    intro i z hik hz hO
    unfold cp2
    by_cases c : z.1.testBit i = true
    · rw [if_pos c]
      exact ih (i + 1) z (by omega) (fun p h1 h2 => hz p (by omega) h2) hO
    · rw [if_neg c]
      have hr : rdc E a (i : Int) = 0 := Classical.byContradiction fun q => c (hz i (Nat.le_refl _) (by omega) q)
      refine ih (i + 1) _ (by omega) (fun p h1 h2 h3 => ?_) (wrt_ok h hO hb (i : Int) _ (hX i (by omega) hr))
      have k := hz p (by omega) h2 h3
      show (if (wrt E z.2 b (i : Int) (X i) (eVk E a)).1 = 0 then z.1 else z.1 ||| 2 ^ i).testBit p = true
      by_cases d : (wrt E z.2 b (i : Int) (X i) (eVk E a)).1 = 0
      · rw [if_pos d]; exact k
      · rw [if_neg d, Nat.testBit_or, k, Bool.true_or]
def xTh : List Nat := [18, 19, 20, 21, 22, 23, 24, 25, 26, 27, 28, 29]
theorem xTh_in {p : Nat} (hp : p < 12) {x : Nat} (hx : x ∉ xTh) : x ≠ 18 + p := by
  simp only [xTh, List.mem_cons, List.not_mem_nil, or_false, not_or] at hx
  omega
theorem once1_c {a b m : Nat} {C : yC} (ha : a < nv) (hm : m ≤ 12) (hO : OKC nb (eBk E) C.1 C.2) : ∀ k n i hi hl, i + k = m → k < n → EV nb nv vb E hi → CC nb C.1 C.2 hi hl → (∀ p, p < i → rdc E a (p : Int) = 0 → hi (18 + p) 0 = nI (thg E C a (p : Int)).1 ∧ hl (18 + p) 1 = (thg E C a (p : Int)).2) → ∃ hi' hl', F_X5_copyAtOnce_28 n (nI a) (nI b) (nI m) (nI (rbs E a i)) (nI i) hi hl r = F_X5_copyAtOnce_69 1000000 (nI a) (nI b) (nI m) (nI (rbs E a m)) 0 hi' hl' r ∧ (∀ x, x ∉ xTh → hi' x = hi x) ∧ (∀ x, x ∉ xTh → hl' x = hl x) ∧ (∀ p, p < m → rdc E a (p : Int) = 0 → hi' (18 + p) 0 = nI (thg E C a (p : Int)).1 ∧ hl' (18 + p) 1 = (thg E C a (p : Int)).2) := by
  intro k
  induction k with
  | zero =>
    intro n i hi hl hik hn h hC hT
    obtain ⟨n, rfl⟩ : ∃ q, n = q + 1 := ⟨n - 1, by omega⟩
    have e : i = m := by omega
    subst e
    refine ⟨hi, hl, ?_, fun _ _ => rfl, fun _ _ => rfl, hT⟩
    unfold F_X5_copyAtOnce_28
    rw [if_pos ((nI_leI (by omega) (by omega)).mpr (Nat.le_refl _))]
  | succ k ih =>
    intro n i hi hl hik hn h hC hT
    obtain ⟨n, rfl⟩ : ∃ q, n = q + 1 := ⟨n - 1, by omega⟩
    have g : ¬ nI m ≤ nI i := by rw [nI_leI (by omega) (by omega)]; omega
    have ht := isTh_r i (by omega)
    obtain ⟨t1, t2, t3⟩ := ht.o
    unfold F_X5_copyAtOnce_28 F_X5_copyAtOnce_60
    rw [if_neg g, if_pos (xok_t (by omega) (by decide)), cl_nI (by omega), xhr17 r (by omega), xbO_some, i_one i (by omega), i_or, show nI i + 1 = nI (i + 1) from nI_1 i]
    by_cases c : rdc E a (i : Int) = 0
    · have kt : F_X5_take (nI a) (nI i) (18 + i) hi hl r = some (0, xu hi (18 + i) 0 (nI (thg E C a (i : Int)).1), xu hl (18 + i) 1 (thg E C a (i : Int)).2, r) := take_y (r := r) h hC hO ht ha (by omega) c
      have n3 := ht.n
      obtain ⟨hi', hl', z1, z2, z3, z4⟩ := ih n (i + 1) (xu hi (18 + i) 0 (nI (thg E C a (i : Int)).1)) (xu hl (18 + i) 1 (thg E C a (i : Int)).2) (by omega) (by omega) (h.u 0 _ t2 (Or.inl t3)) (hC.fr (xu_ne _ _ _ (fun e => n3.1 e.symm)) (xu_ne _ _ _ (fun e => n3.2 e.symm))) (fun p hp hr => by
        by_cases e : p = i
        · subst e
          exact ⟨xu_at _ _ _ _, xu_at _ _ _ _⟩
        · rw [xu_ne2 _ _ (Or.inl (by omega)), xu_ne2 _ _ (Or.inl (by omega))]
          exact hT p (by omega) hr)
      refine ⟨hi', hl', ?_, fun x hx => by rw [z2 x hx, xu_ne _ _ _ (xTh_in (by omega) hx)], fun x hx => by rw [z3 x hx, xu_ne _ _ _ (xTh_in (by omega) hx)], z4⟩
      rw [kt, xbI_some, if_pos rfl, ← z1, show rbs E a (i + 1) = rbs E a i by unfold rbs; rw [if_pos c]; cases i <;> rfl]
    · obtain ⟨hi', hl', z1, z2, z3, z4⟩ := ih n (i + 1) hi hl (by omega) (by omega) h hC (fun p hp hr => by
        by_cases e : p = i
        · subst e
          exact absurd hr c
        · exact hT p (by omega) hr)
      refine ⟨hi', hl', ?_, z2, z3, z4⟩
      rw [take_n (hl := hl) (r := r) h (18 + i) ha (by omega) c, xbI_some, if_neg c, ← z1, show rbs E a (i + 1) = rbs E a i ||| 2 ^ i by conv => lhs; unfold rbs; rw [if_neg c]]
theorem once2_c {a b m : Nat} {X : Nat → Nat × Int64} (ha : a < nv) (hb : b < nv) (hm : m ≤ 12) (hX : ∀ p, p < m → rdc E a (p : Int) = 0 → okt (X p)) : ∀ k n i (z : Nat × yC) hi hl, i + k = m → k < n → z.1 < 2 ^ 12 → EV nb nv vb E hi → CC nb z.2.1 z.2.2 hi hl → (∀ p, i ≤ p → p < m → rdc E a (p : Int) ≠ 0 → z.1.testBit p = true) → (∀ p, i ≤ p → p < m → rdc E a (p : Int) = 0 → hi (18 + p) 0 = nI (X p).1 ∧ hl (18 + p) 1 = (X p).2) → ∃ hi' hl', F_X5_copyAtOnce_69 n (nI a) (nI b) (nI m) (nI z.1) (nI i) hi hl r = some (nI (cp2 E a b X k i z).1, hi', hl', r) ∧ CC nb (cp2 E a b X k i z).2.1 (cp2 E a b X k i z).2.2 hi' hl' ∧ (∀ x, x ∉ 3 :: xTh → hi' x = hi x) ∧ (∀ x, x ∉ 4 :: xTh → hl' x = hl x) := by
  intro k
  induction k with
  | zero =>
    intro n i z hi hl hik hn hs h hC hz hT
    obtain ⟨n, rfl⟩ : ∃ q, n = q + 1 := ⟨n - 1, by omega⟩
    refine ⟨hi, hl, ?_, hC, fun _ _ => rfl, fun _ _ => rfl⟩
    unfold F_X5_copyAtOnce_69
    rw [if_pos ((nI_leI (by omega) (by omega)).mpr (by omega))]
    rfl
  | succ k ih =>
    intro n i z hi hl hik hn hs h hC hz hT
    obtain ⟨n, rfl⟩ : ∃ q, n = q + 1 := ⟨n - 1, by omega⟩
    have g : ¬ nI m ≤ nI i := by rw [nI_leI (by omega) (by omega)]; omega
    obtain ⟨n8, n6, -, -, -, -, -, a12, -, ak8⟩ := ev_v h ha
    have ht := isTh_r i (by omega)
    unfold F_X5_copyAtOnce_69 F_X5_copyAtOnce_120 cp2
    rw [if_neg g, i_tst (by omega) (by omega), show nI i + 1 = nI (i + 1) from nI_1 i]
    by_cases c : z.1.testBit i = true
    · rw [if_pos c, if_pos c, if_neg (by decide)]
      obtain ⟨hi', hl', z1, z2, z3, z4⟩ := ih n (i + 1) z hi hl (by omega) (by omega) hs h hC (fun p h1 h2 => hz p (by omega) h2) (fun p h1 h2 => hT p (by omega) h2)
      exact ⟨hi', hl', z1, z2, z3, z4⟩
    · rw [if_neg c, if_neg c, if_pos rfl]
      have hr : rdc E a (i : Int) = 0 := Classical.byContradiction fun q => c (hz i (Nat.le_refl _) (by omega) q)
      obtain ⟨e1, e2⟩ := hT i (Nat.le_refl _) (by omega) hr
      have hx1 := (hX i (by omega) hr).1
      obtain ⟨hi1, hl1, q1, q2, q3, q4⟩ := put_c (r := r) (C := z.2) (v := b) (p := i) (t := 18 + i) (y := eVk E a) (x := X i) h hC ht hb (by omega) (by omega) ak8 e1 e2
      have nT : ∀ p, p < 12 → p ≠ i → 18 + p ∉ [3, 18 + i] ∧ 18 + p ∉ [4, 18 + i] := fun p hp hpi => by simp; omega
      obtain ⟨hi', hl', z1, z2, z3, z4⟩ := ih n (i + 1) (if (wrt E z.2 b (i : Int) (X i) (eVk E a)).1 = 0 then z.1 else z.1 ||| 2 ^ i, (wrt E z.2 b (i : Int) (X i) (eVk E a)).2) hi1 hl1 (by omega) (by omega) (by
        show (if (wrt E z.2 b (i : Int) (X i) (eVk E a)).1 = 0 then z.1 else z.1 ||| 2 ^ i) < 2 ^ 12
        by_cases d : (wrt E z.2 b (i : Int) (X i) (eVk E a)).1 = 0
        · rw [if_pos d]; exact hs
        · rw [if_neg d]; exact Nat.or_lt_two_pow hs (Nat.pow_lt_pow_right (by decide) (by omega))) (h.fr (fun x hx => q3 x (fun e => by
          simp only [List.mem_cons, List.not_mem_nil, or_false] at e
          rcases e with rfl | rfl
          · exact absurd hx (by decide)
          · exact ht.o.2.1 hx)) (by rw [q3 90 (by simp; omega)]) (by rw [q3 90 (by simp; omega)])) q2 (fun p h1 h2 h3 => by
        have k := hz p (by omega) h2 h3
        show (if (wrt E z.2 b (i : Int) (X i) (eVk E a)).1 = 0 then z.1 else z.1 ||| 2 ^ i).testBit p = true
        by_cases d : (wrt E z.2 b (i : Int) (X i) (eVk E a)).1 = 0
        · rw [if_pos d]; exact k
        · rw [if_neg d, Nat.testBit_or, k, Bool.true_or]) (fun p h1 h2 h3 => by
        rw [q3 _ (nT p (by omega) (by omega)).1, q4 _ (nT p (by omega) (by omega)).2]
        exact hT p (by omega) h2 h3)
      refine ⟨hi', hl', ?_, z2, fun x hx => ?_, fun x hx => ?_⟩
      · rw [if_pos (xok_t (by omega) (by decide)), cl_nI (by omega), xhr17 r (by omega), xbO_some, if_pos (xok_t (by omega) (by decide)), cl_nI (by omega), a12, q1, xbI_some, ← z1, i_one i (by omega), i_or]
        by_cases d : (wrt E z.2 b (i : Int) (X i) (eVk E a)).1 = 0
        · rw [if_pos d, if_pos d]
        · rw [if_neg d, if_neg d]
      · have hx' := hx
        simp only [List.mem_cons, not_or] at hx'
        rw [z3 x hx, q3 x (by simp only [List.mem_cons, List.not_mem_nil, or_false, not_or]; exact ⟨hx'.1, xTh_in (by omega) hx'.2⟩)]
      · have hx' := hx
        simp only [List.mem_cons, not_or] at hx'
        rw [z4 x hx, q4 x (by simp only [List.mem_cons, List.not_mem_nil, or_false, not_or]; exact ⟨hx'.1, xTh_in (by omega) hx'.2⟩)]
/-- what the reference changes while it copies all -/
def mJ (hi hi' : Nat → Nat → Int32) : Prop := (∀ a, a ∉ [90, 93, 115] → hi' a = hi a) ∧ ∀ j, j ∉ [31, 33] → hi' 90 j = hi 90 j
def mK (hl hl' : Nat → Nat → Int64) : Prop := (∀ a, a ∉ [90, 94, 116] → hl' a = hl a) ∧ ∀ j, j ≠ 32 → hl' 90 j = hl 90 j
theorem mJ.rf {hi : Nat → Nat → Int32} : mJ hi hi := ⟨fun _ _ => rfl, fun _ _ => rfl⟩
theorem mK.rf {hl : Nat → Nat → Int64} : mK hl hl := ⟨fun _ _ => rfl, fun _ _ => rfl⟩
theorem mJ.trans {h1 h2 h3 : Nat → Nat → Int32} (a : mJ h1 h2) (b : mJ h2 h3) : mJ h1 h3 := ⟨fun x p => (b.1 x p).trans (a.1 x p), fun j p => (b.2 j p).trans (a.2 j p)⟩
theorem mK.trans {h1 h2 h3 : Nat → Nat → Int64} (a : mK h1 h2) (b : mK h2 h3) : mK h1 h3 := ⟨fun x p => (b.1 x p).trans (a.1 x p), fun j p => (b.2 j p).trans (a.2 j p)⟩
theorem mI.J {h1 h2 : Nat → Nat → Int32} (a : mI h1 h2) : mJ h1 h2 := ⟨fun x p => a.1 x (nD p (by decide)), a.2⟩
theorem mL.K {h1 h2 : Nat → Nat → Int64} (a : mL h1 h2) : mK h1 h2 := ⟨fun x p => a.1 x (nD p (by decide)), a.2⟩
theorem mJ.w {hi : Nat → Nat → Int32} (j : Nat) (v : Int32) : mJ hi (xu hi 115 j v) := ⟨fun x p => xu_ne _ _ _ (nDe p (by decide)), fun _ _ => xu_ne2 _ _ (Or.inl (by decide))⟩
theorem mK.w {hl : Nat → Nat → Int64} (j : Nat) (v : Int64) : mK hl (xu hl 116 j v) := ⟨fun x p => xu_ne _ _ _ (nDe p (by decide)), fun _ _ => xu_ne2 _ _ (Or.inl (by decide))⟩
theorem EV.j {hi hi' : Nat → Nat → Int32} (h : EV nb nv vb E hi) (a : mJ hi hi') : EV nb nv vb E hi' :=
  h.fr (fun x hx => a.1 x (fun e => by
    simp only [List.mem_cons, List.not_mem_nil, or_false] at e
    rcases e with rfl | rfl | rfl
    · exact absurd hx (by decide)
    · exact absurd hx (by decide)
    · exact absurd hx (by decide))) (a.2 1 (by decide)) (a.2 6 (by decide))
theorem once1_m {a b m : Nat} {C : yC} (ha : a < nv) (hm : m ≤ 12) : ∀ k n i hi hl, i + k = m → k < n → EV nb nv vb E hi → MC nb C.1 C.2 hi hl → (∀ p, p < i → rdc E a (p : Int) = 0 → hi 115 p = nI (thg E C a (p : Int)).1 ∧ hl 116 p = (thg E C a (p : Int)).2) → ∃ hi' hl', F_X12_copiesAll_6 n (nI a) (nI b) (nI m) (nI (rbs E a i)) (nI i) hi hl r = F_X12_copiesAll_66 1000000 (nI a) (nI b) (nI m) (nI (rbs E a m)) 0 hi' hl' r ∧ MC nb C.1 C.2 hi' hl' ∧ mJ hi hi' ∧ mK hl hl' ∧ (∀ p, p < m → rdc E a (p : Int) = 0 → hi' 115 p = nI (thg E C a (p : Int)).1 ∧ hl' 116 p = (thg E C a (p : Int)).2) := by
  intro k
  induction k with
  | zero =>
    intro n i hi hl hik hn h hC hT
    obtain ⟨n, rfl⟩ : ∃ q, n = q + 1 := ⟨n - 1, by omega⟩
    have e : i = m := by omega
    subst e
    refine ⟨hi, hl, ?_, hC, mJ.rf, mK.rf, hT⟩
    unfold F_X12_copiesAll_6
    rw [if_pos ((nI_leI (by omega) (by omega)).mpr (Nat.le_refl _))]
  | succ k ih =>
    intro n i hi hl hik hn h hC hT
    obtain ⟨n, rfl⟩ : ∃ q, n = q + 1 := ⟨n - 1, by omega⟩
    have g : ¬ nI m ≤ nI i := by rw [nI_leI (by omega) (by omega)]; omega
    obtain ⟨a1, d1, q1, q2⟩ := read_m (hl := hl) (r := r) h ha (p := i) (by omega)
    have mm : mJ hi (xu (xu hi 90 31 a1) 115 i a1) := (mI.h _).J.trans (mJ.w _ _)
    have mk : mK hl (xu (xu hl 90 32 d1) 116 i d1) := (mL.h _).K.trans (mK.w _ _)
    obtain ⟨hi', hl', z1, z2, z3, z4, z5⟩ := ih n (i + 1) (xu (xu hi 90 31 a1) 115 i a1) (xu (xu hl 90 32 d1) 116 i d1) (by omega) (by omega) (h.j mm) (hC.fr (by rw [xu_ne _ _ _ (by decide), xu_ne _ _ _ (by decide)]) (by rw [xu_ne _ _ _ (by decide), xu_ne _ _ _ (by decide)])) (fun p hp hr => by
      by_cases e : p = i
      · subst e
        obtain ⟨x, ex, hb, ec⟩ := rdc_0 h ha hr
        have hci := (inb_ix h ha hb).1
        rw [← ec] at hci
        obtain ⟨w1, w2⟩ := q2 hr (C.1 (cix E a (p : Int)), C.2 (cix E a (p : Int))) (hC _ hci).1 (hC _ hci).2
        rw [xu_at, xu_at]
        exact ⟨w1, w2⟩
      · rw [xu_ne2 _ _ (Or.inr e), xu_ne2 _ _ (Or.inl (by decide)), xu_ne2 _ _ (Or.inr e), xu_ne2 _ _ (Or.inl (by decide))]
        exact hT p (by omega) hr)
    refine ⟨hi', hl', ?_, z2, mm.trans z3, mk.trans z4, z5⟩
    have or0 : nI (rbs E a i) ||| (0 : Int32) = nI (rbs E a i) := by simp
    unfold F_X12_copiesAll_6 F_X12_copiesAll_32
    rw [if_neg g, q1, xbI_some, if_pos (xok_t (by omega) (by decide)), cl_nI (by omega), xu_at, xu_at, i_one i (by omega), i_or, or0, show nI i + 1 = nI (i + 1) from nI_1 i, ← z1]
    by_cases c : rdc E a (i : Int) = 0
    · rw [if_pos c, show rbs E a (i + 1) = rbs E a i by conv => lhs; unfold rbs; rw [if_pos c]]
    · rw [if_neg c, if_pos (xok_t (by omega) (by decide)), show rbs E a (i + 1) = rbs E a i ||| 2 ^ i by conv => lhs; unfold rbs; rw [if_neg c]]
theorem once2_m {a b m : Nat} {X : Nat → Nat × Int64} (ha : a < nv) (hb : b < nv) (hm : m ≤ 12) (hX : ∀ p, p < m → rdc E a (p : Int) = 0 → okt (X p) ∧ (eVk E a = 8 ∨ (eVk E a ≤ 7 ∧ (X p).1 = eVk E a))) : ∀ k n i (z : Nat × yC) hi hl, i + k = m → k < n → z.1 < 2 ^ 12 → EV nb nv vb E hi → MC nb z.2.1 z.2.2 hi hl → (∀ p, i ≤ p → p < m → rdc E a (p : Int) ≠ 0 → z.1.testBit p = true) → (∀ p, i ≤ p → p < m → rdc E a (p : Int) = 0 → hi 115 p = nI (X p).1 ∧ hl 116 p = (X p).2) → ∃ hi' hl', F_X12_copiesAll_66 n (nI a) (nI b) (nI m) (nI z.1) (nI i) hi hl r = some (nI (cp2 E a b X k i z).1, hi', hl', r) ∧ MC nb (cp2 E a b X k i z).2.1 (cp2 E a b X k i z).2.2 hi' hl' ∧ mI hi hi' ∧ mL hl hl' := by
  intro k
  induction k with
  | zero =>
    intro n i z hi hl hik hn hs h hC hz hT
    obtain ⟨n, rfl⟩ : ∃ q, n = q + 1 := ⟨n - 1, by omega⟩
    refine ⟨hi, hl, ?_, hC, mI.rf, mL.rf⟩
    unfold F_X12_copiesAll_66
    rw [if_pos ((nI_leI (by omega) (by omega)).mpr (by omega))]
    rfl
  | succ k ih =>
    intro n i z hi hl hik hn hs h hC hz hT
    obtain ⟨n, rfl⟩ : ∃ q, n = q + 1 := ⟨n - 1, by omega⟩
    have g : ¬ nI m ≤ nI i := by rw [nI_leI (by omega) (by omega)]; omega
    obtain ⟨n8, n6, -, -, -, -, -, -, a99, ak8⟩ := ev_v h ha
    have hh : F_X12_has (nI z.1) (nI i) = some (if z.1.testBit i = true then 1 else 0) := by
      unfold F_X12_has
      rw [i_tst (by omega) (by omega)]
      by_cases c : z.1.testBit i = true
      · rw [if_pos c, if_pos rfl]
      · rw [if_neg c, if_neg (by decide)]
    unfold F_X12_copiesAll_66 F_X12_copiesAll_130 cp2
    rw [if_neg g, if_pos (xok_t (by omega) (by decide)), cl_nI (by omega), hh, xbP_some, show nI i + 1 = nI (i + 1) from nI_1 i]
    have hE1 : EV nb nv vb E (xu hi 90 31 (hi 115 i)) := h.m (mI.h _)
    have hC1 : MC nb z.2.1 z.2.2 (xu hi 90 31 (hi 115 i)) (xu hl 90 32 (hl 116 i)) := hC.fr (xu_ne _ _ _ (by decide)) (xu_ne _ _ _ (by decide))
    by_cases c : z.1.testBit i = true
    · rw [if_pos c, if_pos c, if_neg (by decide)]
      obtain ⟨hi', hl', z1, z2, z3, z4⟩ := ih n (i + 1) z (xu hi 90 31 (hi 115 i)) (xu hl 90 32 (hl 116 i)) (by omega) (by omega) hs hE1 hC1 (fun p h1 h2 => hz p (by omega) h2) (fun p h1 h2 h3 => by
        rw [xu_ne2 _ _ (Or.inl (by decide)), xu_ne2 _ _ (Or.inl (by decide))]
        exact hT p (by omega) h2 h3)
      exact ⟨hi', hl', z1, z2, (mI.h _).trans z3, (mL.h _).trans z4⟩
    · rw [if_neg c, if_neg c, if_pos rfl]
      have hr : rdc E a (i : Int) = 0 := Classical.byContradiction fun q => c (hz i (Nat.le_refl _) (by omega) q)
      obtain ⟨e1, e2⟩ := hT i (Nat.le_refl _) (by omega) hr
      obtain ⟨hx, hxk⟩ := hX i (by omega) hr
      have hx1 := hx.1
      obtain ⟨hi1, hl1, q1, q2, q3, q4⟩ := ends_m (r := r) (C := z.2) (v := b) (p := i) (y := eVk E a) (x := X i) hE1 hC1 hb (by omega) hxk (by omega) (by rw [xu_at, e1]) (by rw [xu_at, e2])
      obtain ⟨hi', hl', z1, z2, z3, z4⟩ := ih n (i + 1) (if (wrt E z.2 b (i : Int) (X i) (eVk E a)).1 = 0 then z.1 else z.1 ||| 2 ^ i, (wrt E z.2 b (i : Int) (X i) (eVk E a)).2) hi1 hl1 (by omega) (by omega) (by
        show (if (wrt E z.2 b (i : Int) (X i) (eVk E a)).1 = 0 then z.1 else z.1 ||| 2 ^ i) < 2 ^ 12
        by_cases d : (wrt E z.2 b (i : Int) (X i) (eVk E a)).1 = 0
        · rw [if_pos d]; exact hs
        · rw [if_neg d]; exact Nat.or_lt_two_pow hs (Nat.pow_lt_pow_right (by decide) (by omega))) (hE1.m q3) q2 (fun p h1 h2 h3 => by
        have k := hz p (by omega) h2 h3
        show (if (wrt E z.2 b (i : Int) (X i) (eVk E a)).1 = 0 then z.1 else z.1 ||| 2 ^ i).testBit p = true
        by_cases d : (wrt E z.2 b (i : Int) (X i) (eVk E a)).1 = 0
        · rw [if_pos d]; exact k
        · rw [if_neg d, Nat.testBit_or, k, Bool.true_or]) (fun p h1 h2 h3 => by
        rw [q3.1 115 (by decide), q4.1 116 (by decide), xu_ne2 _ _ (Or.inl (by decide)), xu_ne2 _ _ (Or.inl (by decide))]
        exact hT p (by omega) h2 h3)
      refine ⟨hi', hl', ?_, z2, ((mI.h _).trans q3).trans z3, ((mL.h _).trans q4).trans z4⟩
      rw [if_pos (xok_t (by omega) (by decide)), cl_nI (by omega), xu_ne2 _ _ (Or.inl (by decide)), a99, q1, xbI_some, ← z1, i_one i (by omega), i_or]
      by_cases d : (wrt E z.2 b (i : Int) (X i) (eVk E a)).1 = 0
      · rw [if_pos d, if_pos d]
      · rw [if_neg d, if_neg d]
end COPY2
