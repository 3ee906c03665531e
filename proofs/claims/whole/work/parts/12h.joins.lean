/-! joins: 81 pairs of kinds -/
def jh (a b : Nat) : Nat → Nat → Int32 := fun _ j => if j = 0 then nI a else nI b
def lift (hi : Nat → Nat → Int32) (hl : Nat → Nat → Int64) (r : xRr) (o : Option (Int32 × xSt)) : Option (Int32 × xSt) := o.map (fun x => (x.1, hi, hl, r))
theorem joins_tab : ∀ a, a < 9 → ∀ b, b < 9 → (F_X3_joined (nI a) (nI b)).isSome = true ∧ (F_X12_joins_28 1000000 0 1 0 0 (jh a b) (fun _ _ => 0) (0, fun _ => none)).map Prod.fst = F_X3_joined (nI a) (nI b) := by decide +kernel
section JOINS
variable {hi hi0 : Nat → Nat → Int32} {hl hl0 : Nat → Nat → Int64} {r r0 : xRr}
theorem j101 {K K0 : Int32 → Int32 → (Nat → Nat → Int32) → (Nat → Nat → Int64) → xRr → Option (Int32 × xSt)} (hK : ∀ a b, K a b hi hl r = lift hi hl r (K0 a b hi0 hl0 r0)) : ∀ n v3 v4 v5 v6, F_X12_joins_101 K n v3 v4 v5 v6 hi hl r = lift hi hl r (F_X12_joins_101 K0 n v3 v4 v5 v6 hi0 hl0 r0) := by
  intro n
  induction n with
  | zero => intros; rfl
  | succ n ih =>
    intro v3 v4 v5 v6
    unfold F_X12_joins_101 F_X12_joins_136 F_X12_joins_132 F_X12_joins_137
    by_cases c1 : (8 : Int32) ≤ v6
    · simp only [if_pos c1]
      by_cases c2 : v5 = 0
      · simp only [if_pos c2]; exact hK _ _
      · simp only [if_neg c2]; rfl
    · simp only [if_neg c1]
      by_cases c2 : v5 = 0
      · simp only [if_pos c2]; exact ih _ _ _ _
      · simp only [if_neg c2]
        cases F_X12_has v3 v6 with
        | none => rfl
        | some w =>
          simp only [xbP_some]
          by_cases c3 : w = 0
          · simp only [if_pos c3]; exact ih _ _ _ _
          · simp only [if_neg c3]
            cases F_X12_widens v4 v6 with
            | none => rfl
            | some w8 =>
              simp only [xbP_some]
              by_cases c4 : w8 = 0
              · simp only [if_pos c4]; exact ih _ _ _ _
              · simp only [if_neg c4]; exact ih _ _ _ _
theorem j83 : ∀ n v3 v4, F_X12_joins_83 n v3 v4 hi hl r = lift hi hl r (F_X12_joins_83 n v3 v4 hi0 hl0 r0) := by
  intro n
  induction n with
  | zero => intros; rfl
  | succ n ih =>
    intro v3 v4
    unfold F_X12_joins_83
    by_cases c1 : (8 : Int32) ≤ v4
    · simp only [if_pos c1]; rfl
    · simp only [if_neg c1]
      cases F_X12_has v3 v4 with
      | none => rfl
      | some w =>
        simp only [xbP_some]
        exact j101 (fun a b => ih a b) _ _ _ _ _
theorem j28 {v1 v2 w1 w2 : Int32} (k1 : xok v1 8 = true) (k2 : xok v2 8 = true) (k3 : xok w1 8 = true) (k4 : xok w2 8 = true) (e1 : hi 99 v1.toNatClampNeg = hi0 99 w1.toNatClampNeg) (e2 : hi 99 v2.toNatClampNeg = hi0 99 w2.toNatClampNeg) : ∀ n v3 v4, F_X12_joins_28 n v1 v2 v3 v4 hi hl r = lift hi hl r (F_X12_joins_28 n w1 w2 v3 v4 hi0 hl0 r0) := by
  intro n
  induction n with
  | zero => intros; rfl
  | succ n ih =>
    intro v3 v4
    unfold F_X12_joins_28 F_X12_joins_71 F_X12_joins_72
    simp only [if_pos k1, if_pos k2, if_pos k3, if_pos k4, e1, e2]
    by_cases c1 : (8 : Int32) ≤ v4
    · simp only [if_pos c1]; exact j83 _ _ _
    · simp only [if_neg c1]
      cases F_X12_widens (hi0 99 w1.toNatClampNeg) v4 with
      | none => rfl
      | some w =>
        simp only [xbP_some]
        by_cases c3 : w = 0
        · simp only [if_pos c3]; exact ih _ _
        · simp only [if_neg c3]
          cases F_X12_widens (hi0 99 w2.toNatClampNeg) v4 with
          | none => rfl
          | some w8 =>
            simp only [xbP_some]
            by_cases c4 : w8 = 0
            · simp only [if_pos c4]; exact ih _ _
            · simp only [if_neg c4]; exact ih _ _
end JOINS
theorem op_joins (a0 a1 : Int32) : xOpI xInv (F_X11_joins a0 a1) (F_X12_joins a0 a1) := by
  intro hi hl r h
  have h0 := h
  obtain ⟨nb, bk, bz, ck, cn, nv, vb, vf, vs, vc, vk, ch, bo, tk, tn, P, nx, G, ln, lp, md, mt, sn, st, sc, h1, h2, h3, h4, h5, h6, h7, h8, h9⟩ := h
  have n1 := h2.1
  have n2 := h2.2.1
  have y6 : (xu hi 90 0 (0 : Int32)) 90 6 = nI nv := by rw [xu_ne2 _ _ (Or.inr (by decide))]; exact h2.2.2.1
  rcases rng a0 (n := nv) (by omega) with ⟨u, hu, rfl, eu⟩ | hbad
  · rcases rng a1 (n := nv) (by omega) with ⟨v, hv, rfl, ev⟩ | hbad
    · obtain ⟨gu, gu2, -⟩ := h2.2.2.2 u hu
      obtain ⟨gv, gv2, -⟩ := h2.2.2.2 v hv
      obtain ⟨t1, t2⟩ := joins_tab (vk u) (by omega) (vk v) (by omega)
      obtain ⟨w, hw⟩ := Option.isSome_iff_exists.mp t1
      have s2 := j28 (hi := xu hi 90 0 0) (hi0 := jh (vk u) (vk v)) (hl := hl) (hl0 := fun _ _ => 0) (r := r) (r0 := (0, fun _ => none)) (v1 := nI u) (v2 := nI v) (w1 := 0) (w2 := 1) (xok_t (by omega) (by decide)) (xok_t (by omega) (by decide)) (by decide) (by decide) (by rw [cl_nI (by omega), xu_ne2 _ _ (Or.inl (by decide)), gu2.2.2.2.2.2.2.2]; rfl) (by rw [cl_nI (by omega), xu_ne2 _ _ (Or.inl (by decide)), gv2.2.2.2.2.2.2.2]; rfl) 1000000 0 0
      rw [hw] at t2
      obtain ⟨q, e1, e2⟩ := Option.map_eq_some_iff.mp t2
      rw [e1] at s2
      refine ⟨w, (hi, hl, r), (xu hi 90 0 0, hl, r), ?_, ?_, h0.th⟩
      · unfold F_X11_joins
        rw [vhas_i n2 n1 hu, xbI_some, if_neg (by decide), vhas_i n2 n1 hv, xbI_some, if_neg (by decide), if_pos (xok_t (by omega) (by decide)), if_pos (xok_t (by omega) (by decide)), cl_nI (by omega), cl_nI (by omega), gu2.2.2.2.2.2.2.1, gv2.2.2.2.2.2.2.1, hw, xbP_some]
      · unfold F_X12_joins
        simp only
        rw [mview_i y6 n1 hu, xbI_some, if_neg (by decide), mview_i y6 n1 hv, xbI_some, if_neg (by decide), s2, ← e2]
        rfl
    · refine ⟨-1, (hi, hl, r), (xu hi 90 0 0, hl, r), ?_, ?_, h0.th⟩
      · unfold F_X11_joins
        rw [vhas_i n2 n1 hu, xbI_some, if_neg (by decide), vhas_o n2 n1 hbad, xbI_some, if_pos rfl]
      · unfold F_X12_joins
        simp only
        rw [mview_i y6 n1 hu, xbI_some, if_neg (by decide), mview_o y6 n1 hbad, xbI_some, if_pos rfl]
  · refine ⟨-1, (hi, hl, r), (xu hi 90 0 0, hl, r), ?_, ?_, h0.th⟩
    · unfold F_X11_joins
      rw [vhas_o n2 n1 hbad, xbI_some, if_pos rfl]
    · unfold F_X12_joins
      simp only
      rw [mview_o y6 n1 hbad, xbI_some, if_pos rfl]
