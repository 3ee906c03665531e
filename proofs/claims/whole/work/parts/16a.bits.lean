/-! bits of ints -/
theorem i_inj {a b : Int32} (h : a.toBitVec = b.toBitVec) : a = b := Int32.toBitVec_inj.mp h
theorem i_tb (n : Nat) : (nI n).toBitVec = BitVec.ofNat 32 n := rfl
theorem i_or (a b : Nat) : nI a ||| nI b = nI (a ||| b) := by
  apply i_inj
  rw [Int32.toBitVec_or, i_tb, i_tb, i_tb]
  apply BitVec.eq_of_toNat_eq
  rw [BitVec.toNat_or, BitVec.toNat_ofNat, BitVec.toNat_ofNat, BitVec.toNat_ofNat, Nat.or_mod_two_pow]
theorem i_and (a b : Nat) : nI a &&& nI b = nI (a &&& b) := by
  apply i_inj
  rw [Int32.toBitVec_and, i_tb, i_tb, i_tb]
  apply BitVec.eq_of_toNat_eq
  rw [BitVec.toNat_and, BitVec.toNat_ofNat, BitVec.toNat_ofNat, BitVec.toNat_ofNat, Nat.and_mod_two_pow]
theorem i_sm : ∀ p, p < 32 → ((nI p &&& 31).toBitVec.smod 32).toNat = p := by decide +kernel
theorem i_one : ∀ p, p < 31 → (1 : Int32) <<< (nI p &&& 31) = nI (2 ^ p) := by decide +kernel
theorem i_bit {s p : Nat} (hs : s < 2 ^ 31) (hp : p < 31) : (nI s >>> (nI p &&& 31)) &&& 1 = nI (s / 2 ^ p % 2) := by
  have hd : s / 2 ^ p ≤ s := Nat.div_le_self _ _
  rw [pk_shrN hs _ p (i_sm p (by omega)), pk_andN (m := 1) (by omega) 1 (by decide)]
theorem i_tst {s p : Nat} (hs : s < 2 ^ 31) (hp : p < 31) : (nI s >>> (nI p &&& 31)) &&& 1 = if s.testBit p = true then 1 else 0 := by
  rw [i_bit hs hp, Nat.testBit_eq_decide_div_mod_eq]
  have := Nat.mod_lt (s / 2 ^ p) (show 0 < 2 by decide)
  by_cases c : s / 2 ^ p % 2 = 1
  · rw [c]; rfl
  · rw [show s / 2 ^ p % 2 = 0 by omega]; rfl
theorem i_sub {a b : Nat} (h : b ≤ a) : nI a - nI b = nI (a - b) := by
  have e := nI_add (a - b) b
  rw [Nat.sub_add_cancel h] at e
  rw [← e]
  simp
/-! copies -/
noncomputable def cpf (E : yE) (a b : Nat) : List Nat → Nat × yC → Nat × yC
  | [], s => s
  | p :: t, s => cpf E a b t (if (stp E s.2 0 a (p : Int) b (p : Int)).1 = 0 then s.1 else s.1 ||| 2 ^ p, (stp E s.2 0 a (p : Int) b (p : Int)).2)
def pls (o m : Nat) : Nat → Nat → List Nat
  | 0, _ => []
  | k + 1, i => (if o = 0 then i else m - 1 - i) :: pls o m k (i + 1)
section COPY
variable {r : xRr} {nb nv : Nat} {vb : Nat → Nat} {E : yE}
theorem cpf_ok {hi : Nat → Nat → Int32} (h : EV nb nv vb E hi) {a b : Nat} (ha : a < nv) (hb : b < nv) : ∀ L (s : Nat × yC), OKC nb (eBk E) s.2.1 s.2.2 → OKC nb (eBk E) (cpf E a b L s).2.1 (cpf E a b L s).2.2 := by
  intro L
  induction L with
  | nil => intro s hO; exact hO
  | cons p t ih =>
    intro s hO
    exact ih _ (stp_ok (C := s.2) (w := 0) h hO (p : Int) (p : Int) ha hb)
theorem copyIn_c {a b m o : Nat} (ha : a < nv) (hb : b < nv) (hm : m ≤ 12) {v3 : Int32} (h3 : (v3 = 0) = (o = 0)) : ∀ k n i s C hi hl, i + k = m → k < n → s < 2 ^ 12 → EV nb nv vb E hi → CC nb C.1 C.2 hi hl → OKC nb (eBk E) C.1 C.2 → ∃ hi' hl', F_X5_copyInOrder_29 n (nI a) (nI b) v3 (nI m) (nI s) (nI i) hi hl r = some (nI (cpf E a b (pls o m k i) (s, C)).1, hi', hl', r) ∧ CC nb (cpf E a b (pls o m k i) (s, C)).2.1 (cpf E a b (pls o m k i) (s, C)).2.2 hi' hl' ∧ (∀ x, x ∉ [3, 15, 16] → hi' x = hi x) ∧ (∀ x, x ∉ [4, 15, 16] → hl' x = hl x) := by
  intro k
  induction k with
  | zero =>
    intro n i s C hi hl hik hn hs h hC hO
    obtain ⟨n, rfl⟩ : ∃ q, n = q + 1 := ⟨n - 1, by omega⟩
    refine ⟨hi, hl, ?_, hC, fun _ _ => rfl, fun _ _ => rfl⟩
    unfold F_X5_copyInOrder_29
    rw [if_pos ((nI_leI (by omega) (by omega)).mpr (by omega))]
    rfl
  | succ k ih =>
    intro n i s C hi hl hik hn hs h hC hO
    obtain ⟨n, rfl⟩ : ∃ q, n = q + 1 := ⟨n - 1, by omega⟩
    have g : ¬ nI m ≤ nI i := by rw [nI_leI (by omega) (by omega)]; omega
    generalize ep : (if o = 0 then i else m - 1 - i) = p
    have hp : p < 12 := by
      rw [← ep]
      by_cases c : o = 0
      · rw [if_pos c]; omega
      · rw [if_neg c]; omega
    obtain ⟨hi1, hl1, q1, q2, q3, q4⟩ := perform_c (r := r) (C := C) (w := 0) (a := a) (p := p) (b := b) (q := p) h hC hO (by omega) ha (by omega) hb (by omega)
    have hO1 := stp_ok (C := C) (w := 0) h hO (p : Int) (p : Int) ha hb
    rw [show nI 0 = (0 : Int32) from rfl] at q1
    have hs2 : (if (stp E C 0 a (p : Int) b (p : Int)).1 = 0 then s else s ||| 2 ^ p) < 2 ^ 12 := by
      by_cases c : (stp E C 0 a (p : Int) b (p : Int)).1 = 0
      · rw [if_pos c]; exact hs
      · rw [if_neg c]; exact Nat.or_lt_two_pow hs (Nat.pow_lt_pow_right (by decide) hp)
    obtain ⟨hi2, hl2, z1, z2, z3, z4⟩ := ih n (i + 1) (if (stp E C 0 a (p : Int) b (p : Int)).1 = 0 then s else s ||| 2 ^ p) (stp E C 0 a (p : Int) b (p : Int)).2 hi1 hl1 (by omega) (by omega) hs2 (h.ne q3 (by decide)) q2 hO1
    have tail : F_X5_copyInOrder_52 (F_X5_copyInOrder_29 n) (nI a) (nI b) v3 (nI m) (nI s) (nI i) (nI p) hi hl r = F_X5_copyInOrder_29 n (nI a) (nI b) v3 (nI m) (nI (if (stp E C 0 a (p : Int) b (p : Int)).1 = 0 then s else s ||| 2 ^ p)) (nI (i + 1)) hi1 hl1 r := by
      unfold F_X5_copyInOrder_52 F_X5_copyInOrder_77
      rw [q1, xbI_some, i_one p (by omega), i_or, show nI i + 1 = nI (i + 1) from nI_1 i]
      by_cases c : (stp E C 0 a (p : Int) b (p : Int)).1 = 0
      · rw [if_pos c, if_pos c]
      · rw [if_neg c, if_neg c]
    refine ⟨hi2, hl2, ?_, ?_, fun x hx => by rw [z3 x hx, q3 x hx], fun x hx => by rw [z4 x hx, q4 x hx]⟩
    · simp only [pls, cpf, ep]
      rw [← z1, ← tail]
      unfold F_X5_copyInOrder_29
      rw [if_neg g]
      simp only [h3]
      by_cases c : o = 0
      · rw [if_pos c] at ep ⊢
        rw [ep]
      · rw [if_neg c] at ep ⊢
        obtain ⟨m', rfl⟩ : ∃ m', m = m' + 1 := ⟨m - 1, by omega⟩
        rw [nI_s1 (by omega), i_sub (by omega), show m' - i = p by rw [← ep]; omega]
    · simp only [pls, cpf, ep]
      exact z2
theorem copyIn_m {a b m o : Nat} (ha : a < nv) (hb : b < nv) (hm : m ≤ 12) (ho : o ≤ 1) : ∀ k n i s C hi hl, i + k = m → k < n → s < 2 ^ 12 → EV nb nv vb E hi → MC nb C.1 C.2 hi hl → OKC nb (eBk E) C.1 C.2 → ∃ hi' hl', F_X12_copies_80 n (nI a) (nI b) (nI o) (nI m) (nI s) (nI i) hi hl r = some (nI (cpf E a b (pls o m k i) (s, C)).1, hi', hl', r) ∧ MC nb (cpf E a b (pls o m k i) (s, C)).2.1 (cpf E a b (pls o m k i) (s, C)).2.2 hi' hl' ∧ mI hi hi' ∧ mL hl hl' := by
  have e0 : (nI o = (0 : Int32)) = (o = 0) := nI_eq' (b := 0) (by omega) (by decide)
  intro k
  induction k with
  | zero =>
    intro n i s C hi hl hik hn hs h hC hO
    obtain ⟨n, rfl⟩ : ∃ q, n = q + 1 := ⟨n - 1, by omega⟩
    refine ⟨hi, hl, ?_, hC, mI.rf, mL.rf⟩
    unfold F_X12_copies_80
    rw [if_pos ((nI_leI (by omega) (by omega)).mpr (by omega))]
    rfl
  | succ k ih =>
    intro n i s C hi hl hik hn hs h hC hO
    obtain ⟨n, rfl⟩ : ∃ q, n = q + 1 := ⟨n - 1, by omega⟩
    have g : ¬ nI m ≤ nI i := by rw [nI_leI (by omega) (by omega)]; omega
    generalize ep : (if o = 0 then i else m - 1 - i) = p
    have hp : p < 12 := by
      rw [← ep]
      by_cases c : o = 0
      · rw [if_pos c]; omega
      · rw [if_neg c]; omega
    obtain ⟨hi1, hl1, q1, q2, q3, q4⟩ := goes_m (r := r) (C := C) (w := 0) (a := a) (p := p) (b := b) (q := p) h hC hO (by omega) ha (by omega) hb (by omega)
    have hO1 := stp_ok (C := C) (w := 0) h hO (p : Int) (p : Int) ha hb
    rw [show nI 0 = (0 : Int32) from rfl] at q1
    have hs2 : (if (stp E C 0 a (p : Int) b (p : Int)).1 = 0 then s else s ||| 2 ^ p) < 2 ^ 12 := by
      by_cases c : (stp E C 0 a (p : Int) b (p : Int)).1 = 0
      · rw [if_pos c]; exact hs
      · rw [if_neg c]; exact Nat.or_lt_two_pow hs (Nat.pow_lt_pow_right (by decide) hp)
    obtain ⟨hi2, hl2, z1, z2, z3, z4⟩ := ih n (i + 1) (if (stp E C 0 a (p : Int) b (p : Int)).1 = 0 then s else s ||| 2 ^ p) (stp E C 0 a (p : Int) b (p : Int)).2 hi1 hl1 (by omega) (by omega) hs2 (h.m q3) q2 hO1
    have or0 : nI s ||| (0 : Int32) = nI s := by simp
    have tail : F_X12_copies_103 (F_X12_copies_80 n) (nI a) (nI b) (nI o) (nI m) (nI s) (nI i) (nI p) hi hl r = F_X12_copies_80 n (nI a) (nI b) (nI o) (nI m) (nI (if (stp E C 0 a (p : Int) b (p : Int)).1 = 0 then s else s ||| 2 ^ p)) (nI (i + 1)) hi1 hl1 r := by
      unfold F_X12_copies_103 F_X12_copies_130
      rw [q1, xbI_some, i_one p (by omega), i_or, or0, show nI i + 1 = nI (i + 1) from nI_1 i]
      by_cases c : (stp E C 0 a (p : Int) b (p : Int)).1 = 0
      · rw [if_pos c, if_pos c]
      · rw [if_neg c, if_neg c]
    refine ⟨hi2, hl2, ?_, ?_, q3.trans z3, q4.trans z4⟩
    · simp only [pls, cpf, ep]
      rw [← z1, ← tail]
      unfold F_X12_copies_80
      rw [if_neg g]
      simp only [e0]
      by_cases c : o = 0
      · rw [if_pos c] at ep ⊢
        rw [ep]
      · rw [if_neg c] at ep ⊢
        obtain ⟨m', rfl⟩ : ∃ m', m = m' + 1 := ⟨m - 1, by omega⟩
        rw [nI_s1 (by omega), i_sub (by omega), show m' - i = p by rw [← ep]; omega]
    · simp only [pls, cpf, ep]
      exact z2
end COPY
