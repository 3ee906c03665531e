/-! what is left, by the reference -/
def hh (att : Nat) : Nat := if att = 25 then 9 else (att - 9) % 8
def yy (att : Nat) : Nat := if att < 17 then att - 9 else 8
theorem came_t1 : ∀ kind, kind < 11 → ∀ att, att < 26 → 9 ≤ att → (if hd1 (hh att) (yy att) kind = 0 then 0 else 3) = came kind att := by decide +kernel
theorem came_t2 : ∀ kind, kind < 11 → ∀ att, att < 9 → (if att = 8 ∨ (att < 8 ∧ widb kind att = true) then 0 else 3) = came kind att := by decide +kernel
theorem mod8 : ∀ att, att < 26 → 9 ≤ att → nI att - 9 - (nI att - 9) / 8 * 8 = nI ((att - 9) % 8) ∧ nI att - 9 = nI (att - 9) := by decide +kernel
section CAME
variable {hi : Nat → Nat → Int32} {hl : Nat → Nat → Int64} {r : xRr}
theorem came_m {kind att : Nat} (hk : kind < 13) (ha : att < 26) : ∃ a d, F_X12_came (nI kind) (nI att) hi hl r = some (nI (came kind att), xu hi 90 31 a, xu hl 90 32 d, r) := by
  have e10 : (nI kind ≤ (10 : Int32)) = (kind ≤ 10) := nI_le' (b := 10) (by omega) (by decide)
  have e11 : (nI kind = (11 : Int32)) = (kind = 11) := nI_eq' (b := 11) (by omega) (by decide)
  have e9 : ((9 : Int32) ≤ nI att) = (9 ≤ att) := nI_le' (a := 9) (by decide) (by omega)
  have e25 : (nI att = (25 : Int32)) = (att = 25) := nI_eq' (b := 25) (by omega) (by decide)
  have e17 : ((17 : Int32) ≤ nI att) = (17 ≤ att) := nI_le' (a := 17) (by decide) (by omega)
  have e8 : (nI att = (8 : Int32)) = (att = 8) := nI_eq' (b := 8) (by omega) (by decide)
  unfold F_X12_came F_X12_came_38
  simp only [e10, e11, e9, e25, e8]
  by_cases c10 : kind ≤ 10
  · rw [if_pos c10]
    by_cases c9 : 9 ≤ att
    · rw [if_pos c9]
      obtain ⟨m1, m2⟩ := mod8 att ha c9
      have tb := came_t1 kind (by omega) att ha c9
      have hyx : yy att = 8 ∨ (yy att ≤ 7 ∧ hh att = yy att) := by
        unfold yy hh
        by_cases c : att < 17
        · rw [if_pos c, if_neg (by omega)]
          exact Or.inr ⟨by omega, by omega⟩
        · rw [if_neg c]; exact Or.inl rfl
      have hh10 : hh att ≤ 10 := by
        unfold hh
        by_cases c : att = 25
        · rw [if_pos c]; omega
        · rw [if_neg c]; omega
      obtain ⟨a, d, q1, -⟩ := comes_m (hi := xu hi 90 31 (nI (hh att))) (hl := xu hl 90 32 0) (r := r) (y := yy att) (k := kind) (x := (hh att, 0)) hyx hh10 c10 (xu_at _ _ _ _) (xu_at _ _ _ _)
      rw [xu_xu, xu_xu] at q1
      have z63 : F_X12_came_63 (nI kind) (nI att) (nI (hh att)) hi hl r = some (nI (came kind att), xu hi 90 31 a, xu hl 90 32 d, r) := by
        unfold F_X12_came_63 F_X12_came_87
        simp only [e17]
        have fin : ∀ y : Int32, y = nI (yy att) → xbI (F_X12_comes y (nI kind) (xu hi 90 31 (nI (hh att))) (xu hl 90 32 0) r) (fun w2 hi2 hl2 r2 => if w2 = 0 then some ((0 : Int32), hi2, hl2, r2) else some (3, hi2, hl2, r2)) = some (nI (came kind att), xu hi 90 31 a, xu hl 90 32 d, r) := by
          intro y ey
          rw [ey, q1, xbI_some, ← tb]
          show (if hd1 (hh att) (yy att) kind = 0 then _ else _) = _
          by_cases c : hd1 (hh att) (yy att) kind = 0
          · rw [if_pos c, if_pos c]; rfl
          · rw [if_neg c, if_neg c]; rfl
        by_cases c17 : 17 ≤ att
        · rw [if_pos c17]
          exact fin 8 (by unfold yy; rw [if_neg (by omega)]; rfl)
        · rw [if_neg c17]
          exact fin _ (by unfold yy; rw [if_pos (by omega), m2])
      refine ⟨a, d, ?_⟩
      by_cases c25 : att = 25
      · rw [if_pos c25, ← z63, show hh att = 9 by unfold hh; rw [if_pos c25]]; rfl
      · rw [if_neg c25, if_neg (by decide), m1, ← z63, show hh att = (att - 9) % 8 by unfold hh; rw [if_neg c25]]
    · rw [if_neg c9]
      have tb := came_t2 kind (by omega) att (by omega)
      refine ⟨hi 90 31, hl 90 32, ?_⟩
      rw [xu_id hi rfl, xu_id hl rfl, ← tb]
      by_cases c8 : att = 8
      · rw [if_pos c8, if_pos (Or.inl c8)]; rfl
      · rw [if_neg c8, widens_m kind (by omega) att (by omega), xbP_some]
        by_cases cw : widb kind att = true
        · rw [if_pos cw, if_neg (by decide), if_pos (Or.inr ⟨by omega, cw⟩)]; rfl
        · rw [if_neg cw, if_pos rfl, if_neg (fun q => by
            rcases q with q | q
            · exact c8 q
            · exact cw q.2)]; rfl
  · rw [if_neg c10]
    refine ⟨hi 90 31, hl 90 32, ?_⟩
    rw [xu_id hi rfl, xu_id hl rfl]
    by_cases c11 : kind = 11
    · rw [if_pos c11, c11]; rfl
    · rw [if_neg c11, show kind = 12 by omega]; rfl
theorem came_lt {kind att : Nat} : came kind att ≤ 3 := by
  unfold came
  by_cases c1 : kind = 11
  · rw [if_pos c1]; omega
  · rw [if_neg c1]
    by_cases c2 : kind = 12
    · rw [if_pos c2]; omega
    · rw [if_neg c2]
      by_cases c3 : (xwell.getD att 0).toBitVec.getLsbD kind = true
      · rw [if_pos c3]; omega
      · rw [if_neg c3]; omega
/-- the tries that were seen, in the reference's rows alone -/
def ISm (sn : Nat) (st sc : Nat → Nat) (hi : Nat → Nat → Int32) : Prop := sn ≤ 6 ∧ hi 90 26 = nI sn ∧ ∀ j, j < sn → st j ≤ 25 ∧ sc j ≤ 3 ∧ hi 110 j = nI (st j) ∧ hi 111 j = nI (sc j)
theorem ISm.h {sn : Nat} {st sc : Nat → Nat} {hi : Nat → Nat → Int32} (h : ISm sn st sc hi) (a : Int32) : ISm sn st sc (xu hi 90 31 a) := ⟨h.1, by rw [xu_ne2 _ _ (Or.inr (by decide))]; exact h.2.1, fun j hj => by rw [xu_ne2 _ _ (Or.inl (by decide)), xu_ne2 _ _ (Or.inl (by decide))]; exact h.2.2 j hj⟩
theorem left_in {sn kind s : Nat} {st sc : Nat → Nat} (hk : kind < 13) (K : Int32 → Int32 → (Nat → Nat → Int32) → (Nat → Nat → Int64) → xRr → Option (Int32 × xSt)) : ∀ d n j hi hl, j + d = sn → d < n → ISm sn st sc hi → ∃ a b, F_X12_left_15 K n (nI s) (nI kind) (bI (lfb j st sc kind)) (nI j) hi hl r = K (nI (s ||| (if lfb sn st sc kind = true then 2 ^ kind else 0))) (nI (kind + 1)) (xu hi 90 31 a) (xu hl 90 32 b) r := by
  intro d
  induction d with
  | zero =>
    intro n j hi hl hjd hn h
    obtain ⟨n, rfl⟩ : ∃ q, n = q + 1 := ⟨n - 1, by omega⟩
    have e : j = sn := by omega
    subst e
    have h6 := h.1
    refine ⟨hi 90 31, hl 90 32, ?_⟩
    unfold F_X12_left_15 F_X12_left_74
    rw [h.2.1, if_pos ((nI_leI (by omega) (by omega)).mpr (Nat.le_refl _)), xu_id hi rfl, xu_id hl rfl, show nI kind + 1 = nI (kind + 1) from nI_1 _, i_one kind (by omega), i_or]
    cases hb : lfb j st sc kind with
    | true => rw [if_neg (by decide), if_pos rfl]
    | false => rw [show bI false = 0 from rfl, if_pos rfl, if_neg (by decide), show nI s ||| (0 : Int32) = nI (s ||| 0) from i_or s 0]
  | succ d ih =>
    intro n j hi hl hjd hn h
    obtain ⟨n, rfl⟩ : ∃ q, n = q + 1 := ⟨n - 1, by omega⟩
    have h6 := h.1
    have g : ¬ nI sn ≤ nI j := by rw [nI_leI (by omega) (by omega)]; omega
    obtain ⟨z1, z2, z3, z4⟩ := h.2.2 j (by omega)
    unfold F_X12_left_15 F_X12_left_54 F_X12_left_55
    rw [h.2.1, if_neg g, show nI j + 1 = nI (j + 1) from nI_1 _]
    have ls := lfb_s j st sc kind
    cases hb : lfb j st sc kind with
    | false =>
      rw [hb, Bool.false_and] at ls
      obtain ⟨a, b, q⟩ := ih n (j + 1) hi hl (by omega) (by omega) h
      rw [ls] at q
      exact ⟨a, b, by rw [show bI false = 0 from rfl, if_pos rfl]; exact q⟩
    | true =>
      rw [hb, Bool.true_and] at ls
      obtain ⟨a1, b1', q1⟩ := came_m (hi := hi) (hl := hl) (r := r) hk (show st j < 26 by omega)
      obtain ⟨a, b, q⟩ := ih n (j + 1) (xu hi 90 31 a1) (xu hl 90 32 b1') (by omega) (by omega) (h.h _)
      rw [xu_xu, xu_xu] at q
      refine ⟨a, b, ?_⟩
      have ec : (nI (came kind (st j)) = nI (sc j)) = (came kind (st j) = sc j) := nI_eq' (by have := came_lt (kind := kind) (att := st j); omega) (by omega)
      rw [if_neg (by decide), if_pos (xok_t (by omega) (by decide)), cl_nI (by omega), z3, q1, xbI_some, xu_ne2 _ _ (Or.inl (by decide)), z4, ← q, ls]
      simp only [ec]
      by_cases c : came kind (st j) = sc j
      · rw [if_pos c, c, beq_self_eq_true]; rfl
      · rw [if_neg c, beq_eq_false_iff_ne.mpr c]; rfl
theorem left_out {sn : Nat} {st sc : Nat → Nat} : ∀ d n kind hi hl, kind + d = 13 → d < n → ISm sn st sc hi → ∃ a b, F_X12_left_4 n (nI (bN (lfb sn st sc) kind)) (nI kind) hi hl r = some (nI (lft sn st sc), xu hi 90 31 a, xu hl 90 32 b, r) := by
  intro d
  induction d with
  | zero =>
    intro n kind hi hl hjd hn h
    obtain ⟨n, rfl⟩ : ∃ q, n = q + 1 := ⟨n - 1, by omega⟩
    have e : kind = 13 := by omega
    subst e
    refine ⟨hi 90 31, hl 90 32, ?_⟩
    unfold F_X12_left_4
    rw [if_pos (by decide), xu_id hi rfl, xu_id hl rfl, lft_b]
  | succ d ih =>
    intro n kind hi hl hjd hn h
    obtain ⟨n, rfl⟩ : ∃ q, n = q + 1 := ⟨n - 1, by omega⟩
    have h6 := h.1
    have g : ¬ (13 : Int32) ≤ nI kind := by rw [show (13 : Int32) = nI 13 from rfl, nI_leI (by omega) (by omega)]; omega
    obtain ⟨a1, b1', q1⟩ := left_in (r := r) (s := bN (lfb sn st sc) kind) (show kind < 13 by omega) (F_X12_left_4 n) sn 1000000 0 hi hl (by omega) (by omega) h
    obtain ⟨a, b, q⟩ := ih n (kind + 1) (xu hi 90 31 a1) (xu hl 90 32 b1') (by omega) (by omega) (h.h _)
    rw [xu_xu, xu_xu, bN_or] at q
    refine ⟨a, b, ?_⟩
    unfold F_X12_left_4
    rw [if_neg g, ← q]
    exact q1
theorem left_m {sn : Nat} {st sc : Nat → Nat} (h : ISm sn st sc hi) : ∃ a b, F_X12_left hi hl r = some (nI (lft sn st sc), xu hi 90 31 a, xu hl 90 32 b, r) := left_out (r := r) 13 1000000 0 hi hl (by omega) (by omega) h
end CAME
theorem IS.m {sn : Nat} {st sc : Nat → Nat} {hi : Nat → Nat → Int32} (h : IS sn st sc hi) : ISm sn st sc hi := ⟨h.1, h.2.2.1, h.2.2.2.2.2⟩
theorem lft_lt (sn : Nat) (st sc : Nat → Nat) : lft sn st sc < 8192 := by
  rw [lft_b]
  exact bN_lt _ 13
theorem bitc_t : ∀ a, a < 64 → ∀ b, b < 128 → F_J6_bitCount_0f7a4 (nI (128 * a + b)) = some (nI (ones13 (128 * a + b))) := by decide +kernel
theorem bitc {s : Nat} (hs : s < 8192) : F_J6_bitCount_0f7a4 (nI s) = some (nI (ones13 s)) := by
  have := bitc_t (s / 128) (by omega) (s % 128) (by omega)
  rw [show 128 * (s / 128) + s % 128 = s by omega] at this
  exact this
theorem ones_m {s : Nat} (hs : s < 8192) : F_X12_ones (nI s) = some (nI (ones13 s)) := by
  have key : ∀ d n k, k + d = 13 → d < n → F_X12_ones_4 n (nI s) (nI ((List.range k).map fun k => s / 2 ^ k % 2).sum) (nI k) = some (nI (ones13 s)) := by
    intro d
    induction d with
    | zero =>
      intro n k hkd hn
      obtain ⟨n, rfl⟩ : ∃ q, n = q + 1 := ⟨n - 1, by omega⟩
      have e : k = 13 := by omega
      subst e
      unfold F_X12_ones_4
      rw [if_pos (by decide)]
      rfl
    | succ d ih =>
      intro n k hkd hn
      obtain ⟨n, rfl⟩ : ∃ q, n = q + 1 := ⟨n - 1, by omega⟩
      have g : ¬ (13 : Int32) ≤ nI k := by rw [show (13 : Int32) = nI 13 from rfl, nI_leI (by omega) (by omega)]; omega
      have q := ih n (k + 1) (by omega) (by omega)
      rw [List.range_succ, List.map_append, List.sum_append] at q
      unfold F_X12_ones_4
      rw [if_neg g, i_bit (by omega) (by omega), nI_add, show nI k + 1 = nI (k + 1) from nI_1 k, ← q]
      simp
  exact key 13 1000000 0 (by omega) (by omega)
theorem op_unseen (a0 : Int32) : xOpI xInv (F_X11_unseen a0) (F_X12_unseen a0) := by
  intro hi hl r h
  have h0 := h
  obtain ⟨nb, bk, bz, ck, cn, nv, vb, vf, vs, vc, vk, ch, bo, tk, tn, P, nx, G, ln, lp, md, mt, sn, st, sc, h1, h2, h3, h4, h5, h6, h7, h8, h9⟩ := h
  have q1 : (1 : Int32).toInt = ((2 : Nat) : Int) - 1 := by decide +kernel
  have q1' : (1 : Int64).toInt = ((2 : Nat) : Int) - 1 := by decide +kernel
  rcases (rng a0 (n := 2) (by omega)).symm with hbad | ⟨w, hw, rfl, ew⟩
  · refine ⟨-1, (hi, hl, r), (xu hi 90 0 0, hl, r), ?_, ?_, h0.th⟩
    · unfold F_X11_unseen
      rw [wo hbad q1, xbP_some, if_pos rfl]
    · unfold F_X12_unseen
      simp only
      rw [io hbad q1', xbP_some, if_pos rfl]
  have i4 := h8.2.2.2.1
  obtain ⟨a, b, lm⟩ := left_m (hl := hl) (r := r) (h8.sc (scI.p (hi := hi) (0 : Int32) (show 0 ∉ [1, 6, 13, 15, 22, 26, 29] by decide))).m
  have sI : xInv (xu (xu hi 90 0 0) 90 31 a) (xu hl 90 32 b) r := h0.sc ((scI.p _ (by decide)).trans (scI.p _ (by decide))) (scL.p _ (by decide))
  have hlt := lft_lt sn st sc
  rcases (show w = 0 ∨ w = 1 by omega) with rfl | rfl
  · refine ⟨nI (ones13 (lft sn st sc)), (hi, hl, r), (xu (xu hi 90 0 0) 90 31 a, xu hl 90 32 b, r), ?_, ?_, sI⟩
    · unfold F_X11_unseen
      rw [wi ew hw q1, xbP_some, if_neg (by decide), if_pos (show nI 0 = (0 : Int32) from rfl), i4, bitc hlt, xbP_some]
    · unfold F_X12_unseen
      simp only
      rw [ii ew hw q1', xbP_some, if_neg (by decide), if_pos (show nI 0 = (0 : Int32) from rfl), lm, xbI_some, ones_m hlt, xbP_some]
  · refine ⟨nI (lft sn st sc), (hi, hl, r), (xu (xu hi 90 0 0) 90 31 a, xu hl 90 32 b, r), ?_, ?_, sI⟩
    · unfold F_X11_unseen
      rw [wi ew hw q1, xbP_some, if_neg (by decide), if_neg (by decide), i4]
    · unfold F_X12_unseen
      simp only
      rw [ii ew hw q1', xbP_some, if_neg (by decide), if_neg (by decide), lm, xbI_some]
