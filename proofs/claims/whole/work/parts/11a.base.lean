/-! scratch: what nobody asks for later -/
def xScr : List Nat := [14, 15, 16, 17, 18, 19, 20, 21, 22, 23, 24, 25, 26, 27, 28, 29, 32, 33, 34, 35, 36, 37, 38, 39, 40, 86, 89, 113, 115, 117, 118, 119, 120]
def xScrL : List Nat := [15, 16, 18, 19, 20, 21, 22, 23, 24, 25, 26, 27, 28, 29, 86, 114, 116]
def scI (hi hi' : Nat → Nat → Int32) : Prop := (∀ a, a ≠ 90 → a ∉ xScr → hi' a = hi a) ∧ ∀ j, j ∈ [1, 6, 13, 15, 22, 26, 29] → hi' 90 j = hi 90 j
def scL (hl hl' : Nat → Nat → Int64) : Prop := (∀ a, a ≠ 90 → a ∉ xScrL → hl' a = hl a) ∧ hl' 90 14 = hl 90 14
theorem scI.rf {hi : Nat → Nat → Int32} : scI hi hi := ⟨fun _ _ _ => rfl, fun _ _ => rfl⟩
theorem scL.rf {hl : Nat → Nat → Int64} : scL hl hl := ⟨fun _ _ _ => rfl, rfl⟩
theorem scI.trans {h1 h2 h3 : Nat → Nat → Int32} (a : scI h1 h2) (b : scI h2 h3) : scI h1 h3 := ⟨fun x p q => (b.1 x p q).trans (a.1 x p q), fun j p => (b.2 j p).trans (a.2 j p)⟩
theorem scL.trans {h1 h2 h3 : Nat → Nat → Int64} (a : scL h1 h2) (b : scL h2 h3) : scL h1 h3 := ⟨fun x p q => (b.1 x p q).trans (a.1 x p q), b.2.trans a.2⟩
theorem scI.u {hi : Nat → Nat → Int32} {a : Nat} (j : Nat) (v : Int32) (h : a ∈ xScr) : scI hi (xu hi a j v) := by
  refine ⟨fun x _ hx => xu_ne _ _ _ (fun e => hx (e ▸ h)), fun k _ => xu_ne2 _ _ (Or.inl (fun e => ?_))⟩
  subst e
  revert h
  decide
theorem scI.p {hi : Nat → Nat → Int32} {j : Nat} (v : Int32) (h : j ∉ [1, 6, 13, 15, 22, 26, 29]) : scI hi (xu hi 90 j v) :=
  ⟨fun x hx _ => xu_ne _ _ _ hx, fun k hk => xu_ne2 _ _ (Or.inr (fun e => h (e ▸ hk)))⟩
theorem scL.u {hl : Nat → Nat → Int64} {a : Nat} (j : Nat) (v : Int64) (h : a ∈ xScrL) : scL hl (xu hl a j v) := by
  refine ⟨fun x _ hx => xu_ne _ _ _ (fun e => hx (e ▸ h)), xu_ne2 _ _ (Or.inl (fun e => ?_))⟩
  subst e
  revert h
  decide
theorem scL.p {hl : Nat → Nat → Int64} {j : Nat} (v : Int64) (h : j ≠ 14) : scL hl (xu hl 90 j v) :=
  ⟨fun x hx _ => xu_ne _ _ _ hx, xu_ne2 _ _ (Or.inr (fun e => h e.symm))⟩
theorem scI.fill {hi : Nat → Nat → Int32} {a : Nat} (lo n : Nat) (v : Nat → Int32) (h : a ∈ xScr) : scI hi (xfill hi a lo n v) := by
  refine ⟨fun x _ hx => xfill_ne _ _ _ _ (fun e => hx (e ▸ h)), fun k _ => xfill_out _ _ _ _ _ (Or.inl (fun e => ?_))⟩
  subst e
  revert h
  decide
theorem scL.fill {hl : Nat → Nat → Int64} {a : Nat} (lo n : Nat) (v : Nat → Int64) (h : a ∈ xScrL) : scL hl (xfill hl a lo n v) := by
  refine ⟨fun x _ hx => xfill_ne _ _ _ _ (fun e => hx (e ▸ h)), xfill_out _ _ _ _ _ (Or.inl (fun e => ?_))⟩
  subst e
  revert h
  decide
theorem scI.row {hi hi' : Nat → Nat → Int32} (h : scI hi hi') {a : Nat} (ha : (a ≠ 90 ∧ a ∉ xScr) := by decide) : hi' a = hi a := h.1 a ha.1 ha.2
theorem scL.row {hl hl' : Nat → Nat → Int64} (h : scL hl hl') {a : Nat} (ha : (a ≠ 90 ∧ a ∉ xScrL) := by decide) : hl' a = hl a := h.1 a ha.1 ha.2
theorem scr_img {a : Nat} (h1 : 41 ≤ a) (h2 : a ≤ 75) : a ≠ 90 ∧ a ∉ xScr ∧ a ∉ xScrL := by
  refine ⟨by omega, ?_, ?_⟩
  · intro h; simp only [xScr, List.mem_cons, List.not_mem_nil, or_false] at h; omega
  · intro h; simp only [xScrL, List.mem_cons, List.not_mem_nil, or_false] at h; omega
theorem lst_row {X : List Nat} {hi hi' : Nat → Nat → Int32} (h : scI hi hi') (hX : X.all (fun a => decide (a ≠ 90) && decide (a ∉ xScr)) = true) : ∀ a, a ∈ X → hi' a = hi a := by
  intro a ha
  have := List.all_eq_true.mp hX a ha
  simp only [Bool.and_eq_true, decide_eq_true_eq] at this
  exact h.1 a this.1 this.2
theorem lst_rowL {X : List Nat} {hl hl' : Nat → Nat → Int64} (h : scL hl hl') (hX : X.all (fun a => decide (a ≠ 90) && decide (a ∉ xScrL)) = true) : ∀ a, a ∈ X → hl' a = hl a := by
  intro a ha
  have := List.all_eq_true.mp hX a ha
  simp only [Bool.and_eq_true, decide_eq_true_eq] at this
  exact h.1 a this.1 this.2
section SCR
variable {hi hi' : Nat → Nat → Int32} {hl hl' : Nat → Nat → Int64} {r : xRr} {nb nv : Nat} {bk bz ck vb vc vk bo : Nat → Nat} {cn : Nat → Int64} {vf vs : Nat → Int} {ch : Nat → List Nat}
theorem IB.sc (h : IB nb bk bz ck cn hi hl) (a : scI hi hi') (b : scL hl hl') : IB nb bk bz ck cn hi' hl' := h.tr (lst_row a (by decide)) (a.2 1 (by decide)) (lst_rowL b (by decide))
theorem IV.sc (h : IV nb nv vb vf vs vc vk ch bo hi) (a : scI hi hi') : IV nb nv vb vf vs vc vk ch bo hi' := h.tr (lst_row a (by decide)) (a.2 6 (by decide))
theorem IT.sc {tk : Nat} {tn : Int64} (h : IT tk tn hi hl) (a : scI hi hi') (b : scL hl hl') : IT tk tn hi' hl' := h.tr a.row b.row (a.2 13 (by decide)) b.2
theorem IU.sc {P : List xSn} {nx : Nat} (h : IU nb bk P nx hi hl r) (a : scI hi hi') (b : scL hl hl') : IU nb bk P nx hi' hl' r := h.tr (fun x h1 h2 => a.1 x (scr_img h1 h2).1 (scr_img h1 h2).2.1) (lst_row a (by decide)) (a.2 15 (by decide)) (fun x h1 h2 => b.1 x (scr_img (by omega) h2).1 (scr_img (by omega) h2).2.2) b.row
theorem IG.sc {G : Nat → Option xSn} (h : IG nb bk G hi hl) (a : scI hi hi') (b : scL hl hl') : IG nb bk G hi' hl' := h.tr (lst_row a (by decide)) (lst_rowL b (by decide))
theorem IL.sc {ln : Nat} {lp : Nat → Nat} (h : IL nv ln lp hi) (a : scI hi hi') : IL nv ln lp hi' := h.tr a.row a.row a.row (a.2 22 (by decide))
theorem IM.sc {md mt : Nat → Nat} (h : IM md mt hi) (a : scI hi hi') : IM md mt hi' := h.tr (lst_row a (by decide))
theorem IS.sc {sn : Nat} {st sc : Nat → Nat} (h : IS sn st sc hi) (a : scI hi hi') : IS sn st sc hi' := h.tr (lst_row a (by decide)) (a.2 26 (by decide))
theorem IP.sc (h : IP hi) (a : scI hi hi') : IP hi' := h.tr a.row a.row (a.2 29 (by decide))
theorem xInv.sc (h : xInv hi hl r) (a : scI hi hi') (b : scL hl hl') : xInv hi' hl' r := by
  obtain ⟨nb, bk, bz, ck, cn, nv, vb, vf, vs, vc, vk, ch, bo, tk, tn, P, nx, G, ln, lp, md, mt, sn, st, sc, h1, h2, h3, h4, h5, h6, h7, h8, h9⟩ := h
  exact ⟨nb, bk, bz, ck, cn, nv, vb, vf, vs, vc, vk, ch, bo, tk, tn, P, nx, G, ln, lp, md, mt, sn, st, sc, h1.sc a b, h2.sc a, h3.sc a b, h4.sc a b, h5.sc a b, h6.sc a, h7.sc a, h8.sc a, h9.sc a⟩
theorem xInv.th (h : xInv hi hl r) : xInv (xu hi 90 0 0) hl r := h.sc (scI.p _ (by decide)) scL.rf
end SCR
/-- an argument is one of those there are, or it isn't -/
theorem rng (x : Int32) {n : Nat} (hn : n < 2 ^ 31) : (∃ j, j < n ∧ x = nI j ∧ x.toInt = (j : Int)) ∨ ¬ (0 ≤ x.toInt ∧ x.toInt ≤ (n : Int) - 1) := by
  by_cases h : 0 ≤ x.toInt ∧ x.toInt ≤ (n : Int) - 1
  · refine Or.inl ⟨x.toInt.toNat, by omega, Int32.toInt_inj.mp ?_, by omega⟩
    rw [nI_toInt (by omega)]
    omega
  · exact Or.inr h
theorem in0 (x : Int32) (b : Int64) : F_X12_in x.toInt64 0 b = some (if 0 ≤ x.toInt ∧ x.toInt ≤ b.toInt then 1 else 0) := by
  rw [in_eq, i2l_toInt]
  rfl
theorem inN (x : Int32) {n : Nat} (hn : n < 2 ^ 30) : F_X12_in x.toInt64 0 (nI n - 1).toInt64 = some (if 0 ≤ x.toInt ∧ x.toInt ≤ (n : Int) - 1 then 1 else 0) := by
  have e : (nI n - 1).toInt = (n : Int) - 1 := pk_sub_toInt (b := 1) hn (by decide)
  rw [in0, i2l_toInt, e]
theorem has_gen (x : Int32) {n : Nat} (hn : n < 2 ^ 31) (c : Int32) (hc : c = nI n) : (x < 0 ∨ c ≤ x) ↔ ¬ (0 ≤ x.toInt ∧ x.toInt ≤ (n : Int) - 1) := by
  subst hc
  rw [Int32.lt_iff_toInt_lt, Int32.le_iff_toInt_le, nI_toInt hn]
  have : (0 : Int32).toInt = 0 := rfl
  omega
theorem lx {α : Type} {X Z : List Nat} {f g : Nat → α} (hn : ∀ a, a ∉ X → g a = f a) (h : Z.all (fun a => decide (a ∉ X)) = true) : ∀ a, a ∈ Z → g a = f a := by
  intro a ha
  have := List.all_eq_true.mp h a ha
  exact hn a (of_decide_eq_true this)
