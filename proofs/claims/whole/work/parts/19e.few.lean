/-! how few tries: the reference -/
section FEWM
variable {hl : Nat → Nat → Int64} {r : xRr}
def wbd (p : Nat → Nat) (s att : Nat) : Nat → Nat → Nat → Nat
  | 0, _, w => w
  | d + 1, q, w => if s &&& xsetOf (4 * att + q) = s then 99 else wbd p s att d (q + 1) (if p (s &&& xsetOf (4 * att + q)) > w then p (s &&& xsetOf (4 * att + q)) else w)
theorem wbd_eq (p : Nat → Nat) (s att : Nat) : xwb p s att = wbd p s att 4 0 0 := by
  unfold xwb
  rw [r4]
  simp only [List.any_cons, List.any_nil, List.foldl_cons, List.foldl_nil, Bool.or_false, Bool.or_eq_true, beq_iff_eq, wbd, Nat.zero_add, Nat.add_zero]
  by_cases c0 : s &&& xsetOf (4 * att) = s
  · simp only [c0, true_or, if_true]
  · by_cases c1 : s &&& xsetOf (4 * att + 1) = s
    · simp only [c0, c1, true_or, or_true, if_true, if_false]
    · by_cases c2 : s &&& xsetOf (4 * att + (1 + 1)) = s
      · have c2' : s &&& xsetOf (4 * att + 2) = s := c2
        simp only [c0, c1, c2, c2', true_or, or_true, if_true, if_false]
      · have c2' : ¬ s &&& xsetOf (4 * att + 2) = s := c2
        by_cases c3 : s &&& xsetOf (4 * att + (1 + 1 + 1)) = s
        · have c3' : s &&& xsetOf (4 * att + 3) = s := c3
          simp only [c0, c1, c2, c2', c3, c3', true_or, or_true, if_true, if_false]
        · have c3' : ¬ s &&& xsetOf (4 * att + 3) = s := c3
          simp only [c0, c1, c2, c2', c3, c3', or_self, if_false]
theorem worst_m {hi : Nat → Nat → Int32} {s att : Nat} (hs : s < 8192) (ha : att < 26) (h121 : ∀ j, j < 104 → hi 121 j = nI (xsetOf j)) (h112 : ∀ x, x < s → hi 112 x = nI (pt x)) : F_X12_worstBehind (nI s) (nI att) hi hl r = some (nI (xwb pt s att), hi, hl, r) := by
  have p12 : ∀ x, x < 8192 → pt x ≤ 12 := fun x hx => pt_12 hx
  rw [wbd_eq]
  generalize pt = p at h112 p12
  have key : ∀ d n q w, q + d = 4 → d < n → w ≤ 12 → F_X12_worstBehind_7 n (nI s) (nI att) (nI w) (nI (4 * att + q)) hi hl r = some (nI (wbd p s att d q w), hi, hl, r) := by
    intro d
    induction d with
    | zero =>
      intro n q w hqd hn hw
      obtain ⟨n, rfl⟩ : ∃ q, n = q + 1 := ⟨n - 1, by omega⟩
      have e : q = 4 := by omega
      subst e
      unfold F_X12_worstBehind_7
      rw [show (4 : Int32) * nI att = nI (4 * att) from pk_mul 4 att, show nI (4 * att) + 4 = nI (4 * att + 4) from nI_add _ 4, if_pos ((nI_leI (by omega) (by omega)).mpr (Nat.le_refl _))]
      rfl
    | succ d ih =>
      intro n q w hqd hn hw
      obtain ⟨n, rfl⟩ : ∃ q, n = q + 1 := ⟨n - 1, by omega⟩
      have hle : s &&& xsetOf (4 * att + q) ≤ s := Nat.and_le_left
      have hlt := and_lt (s := s) (x := xsetOf (4 * att + q)) hs
      simp only [wbd]
      generalize ex : s &&& xsetOf (4 * att + q) = x at hle hlt
      have hp := p12 x hlt
      have g : ¬ nI (4 * att + 4) ≤ nI (4 * att + q) := by rw [nI_leI (by omega) (by omega)]; omega
      have e1 : (nI x = nI s) = (x = s) := nI_eq' (by omega) (by omega)
      unfold F_X12_worstBehind_7 F_X12_worstBehind_59
      rw [show (4 : Int32) * nI att = nI (4 * att) from pk_mul 4 att, show nI (4 * att) + 4 = nI (4 * att + 4) from nI_add _ 4, if_neg g, if_pos (xok_t (by omega) (by decide)), cl_nI (by omega), h121 _ (by omega), i_and, ex, if_pos (xok_t hlt (by decide)), cl_nI (by omega), show nI (4 * att + q) + 1 = nI (4 * att + (q + 1)) from nI_1 _]
      simp only [e1]
      by_cases c : x = s
      · rw [if_pos c, if_pos c]; rfl
      · rw [if_neg c, if_neg c, h112 x (by omega)]
        have e2 : (nI (p x) ≤ nI w) = (p x ≤ w) := nI_le' (by omega) (by omega)
        simp only [e2]
        by_cases d' : p x ≤ w
        · rw [if_pos d', if_neg (by omega), ih n (q + 1) w (by omega) (by omega) hw]
        · rw [if_neg d', if_pos (by omega), ih n (q + 1) (p x) (by omega) (by omega) hp]
  have k := key 4 1000000 0 0 (by omega) (by omega) (by omega)
  unfold F_X12_worstBehind
  rw [show (4 : Int32) * nI att = nI (4 * att + 0) from pk_mul 4 att]
  exact k
theorem xwb_99 {s att : Nat} (hs : s < 8192) : xwb pt s att ≤ 99 := by
  by_cases c : xwb pt s att ≤ 98
  · omega
  · unfold xwb at c ⊢
    by_cases d : (List.range 4).any (fun q => (s &&& xsetOf (4 * att + q)) == s) = true
    · rw [if_pos d]; omega
    · rw [if_neg d] at c ⊢
      have p12 : ∀ q, pt (s &&& xsetOf (4 * att + q)) ≤ 12 := fun q => pt_12 (and_lt hs)
      have : ∀ (L : List Nat) w, w ≤ 12 → L.foldl (fun w q => if pt (s &&& xsetOf (4 * att + q)) > w then pt (s &&& xsetOf (4 * att + q)) else w) w ≤ 12 := by
        intro L
        induction L with
        | nil => intro w hw; exact hw
        | cons x t ih =>
          intro w hw
          rw [List.foldl_cons]
          apply ih
          have := p12 x
          by_cases e : pt (s &&& xsetOf (4 * att + x)) > w
          · rw [if_pos e]; exact this
          · rw [if_neg e]; exact hw
      have := this (List.range 4) 0 (by omega)
      omega
theorem fewestOf_m {hi : Nat → Nat → Int32} {s : Nat} (hs : s < 8192) (ho : ¬ ones13 s < 2) (h121 : ∀ j, j < 104 → hi 121 j = nI (xsetOf j)) (h112 : ∀ x, x < s → hi 112 x = nI (pt x)) : F_X12_fewestOf (nI s) hi hl r = some (nI (pt s), hi, hl, r) := by
  have key : ∀ d n a, a + d = 26 → d < n → (List.range a).foldl (fun m att => if 1 + xwb pt s att < m then 1 + xwb pt s att else m) 99 ≤ 99 ∧ F_X12_fewestOf_5 n (nI s) (nI ((List.range a).foldl (fun m att => if 1 + xwb pt s att < m then 1 + xwb pt s att else m) 99)) (nI a) hi hl r = some (nI (pt s), hi, hl, r) := by
    intro d
    induction d with
    | zero =>
      intro n a had hn
      obtain ⟨n, rfl⟩ : ∃ q, n = q + 1 := ⟨n - 1, by omega⟩
      have e : a = 26 := by omega
      subst e
      refine ⟨(foldmin _ _ _ _).mpr (Or.inl (Nat.le_refl _)), ?_⟩
      unfold F_X12_fewestOf_5
      rw [if_pos (by decide), ← pt_rec hs ho]
    | succ d ih =>
      intro n a had hn
      obtain ⟨n, rfl⟩ : ∃ q, n = q + 1 := ⟨n - 1, by omega⟩
      have g : ¬ (26 : Int32) ≤ nI a := by rw [show (26 : Int32) = nI 26 from rfl, nI_leI (by omega) (by omega)]; omega
      have hb : (List.range a).foldl (fun m att => if 1 + xwb pt s att < m then 1 + xwb pt s att else m) 99 ≤ 99 := (foldmin _ _ _ _).mpr (Or.inl (Nat.le_refl _))
      refine ⟨hb, ?_⟩
      obtain ⟨-, q⟩ := ih n (a + 1) (by omega) (by omega)
      rw [List.range_succ, List.foldl_append, List.foldl_cons, List.foldl_nil] at q
      generalize (List.range a).foldl (fun m att => if 1 + xwb pt s att < m then 1 + xwb pt s att else m) 99 = w at hb q
      have h99 := xwb_99 (att := a) hs
      have e2 : (nI w ≤ nI (1 + xwb pt s a)) = (w ≤ 1 + xwb pt s a) := nI_le' (by omega) (by omega)
      unfold F_X12_fewestOf_5 F_X12_fewestOf_33
      rw [if_neg g, worst_m hs (by omega) h121 h112, xbI_some, show (1 : Int32) + nI (xwb pt s a) = nI (1 + xwb pt s a) from nI_add 1 _, show nI a + 1 = nI (a + 1) from nI_1 a, ← q]
      simp only [e2]
      by_cases c : w ≤ 1 + xwb pt s a
      · rw [if_pos c, if_neg (by omega)]
      · rw [if_neg c, if_pos (by omega)]
  exact (key 26 1000000 0 (by omega) (by omega)).2
theorem nar_t : ∀ v, v < 13 → vp_nar .byte (Int8.toInt32 (Int32.toInt8 (nI v))) = nI v := by decide +kernel
theorem part64_m : ∀ d n s (hi : Nat → Nat → Int32), s + d = 8192 → d < n → (∀ j, j < 104 → hi 121 j = nI (xsetOf j)) → (∀ x, x < s → hi 112 x = nI (pt x)) → ∃ hi', F_X12_part_64 n (nI s) hi hl r = some (hi', hl, r) ∧ (∀ a, a ≠ 112 → hi' a = hi a) ∧ (∀ x, x < 8192 → hi' 112 x = nI (pt x)) := by
  intro d
  induction d with
  | zero =>
    intro n s hi hsd hn h121 h112
    obtain ⟨n, rfl⟩ : ∃ q, n = q + 1 := ⟨n - 1, by omega⟩
    have e : s = 8192 := by omega
    subst e
    refine ⟨hi, ?_, fun _ _ => rfl, h112⟩
    unfold F_X12_part_64
    rw [if_pos (by decide +kernel)]
  | succ d ih =>
    intro n s hi hsd hn h121 h112
    obtain ⟨n, rfl⟩ : ∃ q, n = q + 1 := ⟨n - 1, by omega⟩
    have hs : s < 8192 := by omega
    have g : ¬ (8192 : Int32) ≤ nI s := by rw [show (8192 : Int32) = nI 8192 from rfl, nI_leI (by omega) (by omega)]; omega
    have h12 := pt_12 hs
    have h13 := ones_13 s
    obtain ⟨hi', z1, z2, z3⟩ := ih n (s + 1) (xu hi 112 s (nI (pt s))) (by omega) (by omega) (fun j hj => by rw [xu_ne2 _ _ (Or.inl (by decide))]; exact h121 j hj) (fun x hx => by
      by_cases e : x = s
      · subst e; exact xu_at _ _ _ _
      · rw [xu_ne2 _ _ (Or.inr e)]; exact h112 x (by omega))
    refine ⟨hi', ?_, fun a ha => by rw [z2 a ha, xu_ne _ _ _ ha], z3⟩
    have p93 : F_X12_part_93 (F_X12_part_64 n) (nI s) (nI s) (nI (pt s)) hi hl r = some (hi', hl, r) := by
      unfold F_X12_part_93
      rw [if_pos (xok_t hs (by decide)), cl_nI (by omega), nar_t (pt s) (by omega), show nI s + 1 = nI (s + 1) from nI_1 s, z1]
    have e2 : ((2 : Int32) ≤ nI (ones13 s)) = (2 ≤ ones13 s) := nI_le' (a := 2) (by decide) (by omega)
    unfold F_X12_part_64
    rw [if_neg g, ones_m hs, xbP_some]
    simp only [e2]
    by_cases c : 2 ≤ ones13 s
    · rw [if_pos c, fewestOf_m hs (by omega) h121 h112, xbI_some, p93]
    · rw [if_neg c, ← p93, pt_small (by omega)]; rfl
/-- the sets, as far as they are made -/
def pset (att kind j : Nat) : Nat := if j / 4 < att then xsetOf j else if j / 4 = att then bN (fun k => came k att == j % 4) kind else 0
theorem part23_m {att : Nat} (ha : att < 26) (K : Int32 → (Nat → Nat → Int32) → (Nat → Nat → Int64) → xRr → Option xSt) : ∀ d n kind (hi : Nat → Nat → Int32) (hl : Nat → Nat → Int64), kind + d = 13 → d < n → (∀ j, j < 104 → hi 121 j = nI (pset att kind j)) → ∃ hi' b, F_X12_part_23 K n (nI att) (nI kind) hi hl r = K (nI (att + 1)) hi' (xu hl 90 32 b) r ∧ (∀ a, a ∉ [90, 121] → hi' a = hi a) ∧ (∀ j, j ≠ 31 → hi' 90 j = hi 90 j) ∧ (∀ j, j < 104 → hi' 121 j = nI (pset (att + 1) 0 j)) := by
  intro d
  induction d with
  | zero =>
    intro n kind hi hl hkd hn h
    obtain ⟨n, rfl⟩ : ∃ q, n = q + 1 := ⟨n - 1, by omega⟩
    have e : kind = 13 := by omega
    subst e
    refine ⟨hi, hl 90 32, ?_, fun _ _ => rfl, fun _ _ => rfl, fun j hj => ?_⟩
    · unfold F_X12_part_23
      rw [if_pos (by decide), show nI att + 1 = nI (att + 1) from nI_1 att, xu_id hl rfl]
    · rw [h j hj]
      unfold pset
      by_cases c1 : j / 4 < att
      · rw [if_pos c1, if_pos (by omega)]
      · rw [if_neg c1]
        by_cases c2 : j / 4 = att
        · rw [if_pos c2, if_pos (by omega), set_b, c2]
        · rw [if_neg c2, if_neg (by omega)]
          by_cases c3 : j / 4 = att + 1
          · rw [if_pos c3]; rfl
          · rw [if_neg c3]
  | succ d ih =>
    intro n kind hi hl hkd hn h
    obtain ⟨n, rfl⟩ : ∃ q, n = q + 1 := ⟨n - 1, by omega⟩
    have g : ¬ (13 : Int32) ≤ nI kind := by rw [show (13 : Int32) = nI 13 from rfl, nI_leI (by omega) (by omega)]; omega
    obtain ⟨a1, b1', q1⟩ := came_m (hi := hi) (hl := hl) (r := r) (kind := kind) (by omega) ha
    have cl := came_lt (kind := kind) (att := att)
    generalize ec : came kind att = c at cl q1
    have hj0 : 4 * att + c < 104 := by omega
    have e0 : (xu hi 90 31 a1) 121 (4 * att + c) = nI (pset att kind (4 * att + c)) := by rw [xu_ne2 _ _ (Or.inl (by decide))]; exact h _ hj0
    obtain ⟨hi', b, z1, z2, z3, z4⟩ := ih n (kind + 1) (xu (xu hi 90 31 a1) 121 (4 * att + c) (nI (pset att kind (4 * att + c) ||| 2 ^ kind))) (xu hl 90 32 b1') (by omega) (by omega) (fun j hj => by
      have dj : j / 4 = att → pset att (kind + 1) j = pset att kind j ||| (if (came kind att == j % 4) = true then 2 ^ kind else 0) := fun e => by
        unfold pset
        rw [if_neg (by omega), if_pos e, if_neg (by omega), if_pos e]
        exact bN_or _ _
      by_cases e : j = 4 * att + c
      · subst e
        rw [xu_at, dj (by omega), show (4 * att + c) % 4 = c by omega, ec, beq_self_eq_true, if_pos rfl]
      · rw [xu_ne2 _ _ (Or.inr e), xu_ne2 _ _ (Or.inl (by decide)), h j hj]
        by_cases e2 : j / 4 = att
        · have ne : ¬ c = j % 4 := by omega
          rw [dj e2, ec, beq_eq_false_iff_ne.mpr ne, if_neg (by decide)]
          simp
        · unfold pset
          by_cases c1 : j / 4 < att
          · rw [if_pos c1, if_pos c1]
          · rw [if_neg c1, if_neg e2, if_neg c1, if_neg e2])
    refine ⟨hi', b, ?_, fun a ha => ?_, fun j hj => ?_, z4⟩
    · unfold F_X12_part_23
      rw [if_neg g, q1, xbI_some, show (4 : Int32) * nI att = nI (4 * att) from pk_mul 4 att, nI_add, if_pos (xok_t hj0 (by decide)), cl_nI (by omega), e0, i_one kind (by omega), i_or, show nI kind + 1 = nI (kind + 1) from nI_1 kind, z1, xu_xu]
    · simp only [List.mem_cons, List.not_mem_nil, or_false, not_or] at ha
      rw [z2 a (by simp; omega), xu_ne _ _ _ ha.2, xu_ne _ _ _ ha.1]
    · rw [z3 j hj, xu_ne2 _ _ (Or.inl (by decide)), xu_ne2 _ _ (Or.inr hj)]
theorem part15_m : ∀ d n att (hi : Nat → Nat → Int32) (hl : Nat → Nat → Int64), att + d = 26 → d < n → (∀ j, j < 104 → hi 121 j = nI (pset att 0 j)) → ∃ hi' b, F_X12_part_15 n (nI att) hi hl r = some (hi', xu hl 90 32 b, r) ∧ (∀ a, a ∉ [90, 112, 121] → hi' a = hi a) ∧ (∀ j, j ≠ 31 → hi' 90 j = hi 90 j) ∧ (∀ j, j < 104 → hi' 121 j = nI (xsetOf j)) ∧ (∀ x, x < 8192 → hi' 112 x = nI (pt x)) := by
  intro d
  induction d with
  | zero =>
    intro n att hi hl had hn h
    obtain ⟨n, rfl⟩ : ∃ q, n = q + 1 := ⟨n - 1, by omega⟩
    have e : att = 26 := by omega
    subst e
    have h121 : ∀ j, j < 104 → hi 121 j = nI (xsetOf j) := fun j hj => by
      rw [h j hj]
      unfold pset
      rw [if_pos (by omega)]
    obtain ⟨hi', z1, z2, z3⟩ := part64_m (hl := hl) (r := r) 8192 1000000 0 hi (by omega) (by omega) h121 (fun x hx => by omega)
    refine ⟨hi', hl 90 32, ?_, fun a ha => ?_, fun j _ => by rw [z2 90 (by decide)], fun j hj => by rw [z2 121 (by decide)]; exact h121 j hj, z3⟩
    · unfold F_X12_part_15
      rw [if_pos (by decide), xu_id hl rfl]
      exact z1
    · simp only [List.mem_cons, List.not_mem_nil, or_false, not_or] at ha
      exact z2 a ha.2.1
  | succ d ih =>
    intro n att hi hl had hn h
    obtain ⟨n, rfl⟩ : ∃ q, n = q + 1 := ⟨n - 1, by omega⟩
    have g : ¬ (26 : Int32) ≤ nI att := by rw [show (26 : Int32) = nI 26 from rfl, nI_leI (by omega) (by omega)]; omega
    obtain ⟨hi1, b1', q1, q2, q3, q4⟩ := part23_m (r := r) (att := att) (by omega) (F_X12_part_15 n) 13 1000000 0 hi hl (by omega) (by omega) h
    obtain ⟨hi', b, z1, z2, z3, z4, z5⟩ := ih n (att + 1) hi1 (xu hl 90 32 b1') (by omega) (by omega) q4
    rw [xu_xu] at z1
    refine ⟨hi', b, ?_, fun a ha => ?_, fun j hj => by rw [z3 j hj, q3 j hj], z4, z5⟩
    · unfold F_X12_part_15
      rw [if_neg g, ← z1]
      exact q1
    · simp only [List.mem_cons, List.not_mem_nil, or_false, not_or] at ha
      rw [z2 a (by simp; omega), q2 a (by simp; omega)]
end FEWM
