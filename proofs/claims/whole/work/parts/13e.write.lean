def fnl (c : Int32) (b : Bool) : Int32 := if c = 0 then (if b = true then 0 else -8) else c
theorem fnl_0 {c : Int32} {b : Bool} (h : fnl c b = 0) : c = 0 := by
  unfold fnl at h
  by_cases e : c = 0
  · exact e
  · rw [if_neg e] at h
    exact absurd h e
theorem fnl_t (c : Int32) : fnl c true = c := by
  unfold fnl
  by_cases e : c = 0
  · rw [if_pos e, if_pos rfl, e]
  · rw [if_neg e]
theorem fnl_n {c : Int32} (b : Bool) (h : c ≠ 0) : fnl c b = c := by
  unfold fnl
  rw [if_neg h]
theorem ent_1 (b : Nat) (x : Nat × Int64) : (ent b x).1 = if b ≤ 7 then b else x.1 := by
  unfold ent
  by_cases c : b ≤ 7
  · rw [if_pos c, if_pos c]
  · rw [if_neg c, if_neg c]
section WRT
variable {hi : Nat → Nat → Int32} {hl : Nat → Nat → Int64} {r : xRr} {nb nv : Nat} {vb : Nat → Nat} {E : yE}
theorem sink_103 (h : EV nb nv vb E hi) {v c : Nat} {at' : Int32} {ci : Bool} (ha : cAt E nb nv vb v at' ci c) (s : Int32) : F_X12_sink_103 at' (nI (eBo E v)) s hi hl r = some (fnl s (ci || decide (at' = -1000)), hi, hl, r) := by
  unfold F_X12_sink_103 fnl
  by_cases c0 : s = 0
  · rw [if_pos c0, if_pos c0, c0]
    by_cases c1 : at' = -1000
    · rw [if_pos c1, decide_eq_true c1, Bool.or_true, if_pos rfl]
    · rw [if_neg c1, ha.1 _ _ _ h, xbI_some, decide_eq_false c1, Bool.or_false]
      cases ci with
      | true => rw [show (if true = true then (1 : Int32) else 0) = 1 from rfl, if_neg (by decide), if_pos rfl]
      | false => rw [show (if false = true then (1 : Int32) else 0) = 0 from rfl, if_pos rfl, if_neg (by decide)]
  · rw [if_neg c0, if_neg c0]
theorem sink_l {v c : Nat} (hv : v < nv) {at' : Int32} {ci : Bool} (ha : cAt E nb nv vb v at' ci c) : ∀ k n y (x : Nat × Int64) hi hl, EV nb nv vb E hi → k ≤ (eCh E v).length → k < n → (y = 8 ∨ (y ≤ 7 ∧ x.1 = y)) → x.1 ≤ 10 → hi 90 31 = nI x.1 → hl 90 32 = x.2 → ∃ a d, F_X12_sink_20 n (nI v) at' (nI (eBo E v)) (nI y) (nI k - 1) hi hl r = some (fnl (hdn x.1 y (((eCh E v).take k).reverse.map (eVk E) ++ [eBk E (eBo E v)])) (ci || decide (at' = -1000)), xu hi 90 31 a, xu hl 90 32 d, r) ∧ (hdn x.1 y (((eCh E v).take k).reverse.map (eVk E) ++ [eBk E (eBo E v)]) = 0 → a = nI (cup (((eCh E v).take k).reverse.map (eVk E) ++ [eBk E (eBo E v)]) x).1 ∧ d = (cup (((eCh E v).take k).reverse.map (eVk E) ++ [eBk E (eBo E v)]) x).2) := by
  intro k
  induction k with
  | zero =>
    intro n y x hi hl h hk hn hy hx e1 e2
    obtain ⟨n, rfl⟩ : ∃ q, n = q + 1 := ⟨n - 1, by omega⟩
    obtain ⟨n8, n6, hl4, hbo, e9, e100, -⟩ := ev_v h hv
    obtain ⟨b1, b2, b3, b4, b5, b6, b7⟩ := ev_b h hv
    simp only [List.take_zero, List.reverse_nil, List.map_nil, List.nil_append]
    have eh : hdn x.1 y [eBk E (eBo E v)] = hd1 x.1 y (eBk E (eBo E v)) := by
      simp only [hdn]
      by_cases c : hd1 x.1 y (eBk E (eBo E v)) = 0
      · rw [if_pos c, c]
      · rw [if_neg c]
    rw [eh, show cup [eBk E (eBo E v)] x = ent (eBk E (eBo E v)) x from rfl]
    unfold F_X12_sink_20
    rw [if_pos (by decide), refused_m (by omega) b1 b5, xbI_some]
    by_cases c11 : eBk E (eBo E v) = 11
    · rw [c11, hd1_11 x.1 (by omega) y (by omega), if_pos rfl, if_neg (by decide +kernel), sink_103 h ha]
      exact ⟨hi 90 31, hl 90 32, by rw [xu_id _ rfl, xu_id _ rfl], fun q => absurd q (by decide +kernel)⟩
    by_cases c12 : eBk E (eBo E v) = 12
    · rw [c12, hd1_12 x.1 (by omega) y (by omega), if_neg (by decide), if_pos rfl, if_neg (by decide +kernel), sink_103 h ha]
      exact ⟨hi 90 31, hl 90 32, by rw [xu_id _ rfl, xu_id _ rfl], fun q => absurd q (by decide +kernel)⟩
    obtain ⟨a, d, q1, q2⟩ := comes_m (r := r) (k := eBk E (eBo E v)) hy hx (by omega) e1 e2
    rw [if_neg c11, if_neg c12, if_pos rfl, if_pos (xok_t (by omega) (by decide)), cl_nI (by omega), b5, q1, xbI_some, sink_103 (h.u 31 _ (by decide) (Or.inr (by decide))) ha]
    exact ⟨a, d, rfl, q2⟩
  | succ k ih =>
    intro n y x hi hl h hk hn hy hx e1 e2
    obtain ⟨n, rfl⟩ : ∃ q, n = q + 1 := ⟨n - 1, by omega⟩
    obtain ⟨n8, n6, hl4, hbo, e9, e100, -⟩ := ev_v h hv
    obtain ⟨u, hu, hu1, hu2, hu3, -, -, e99⟩ := ch_u h hv (i := k) (by omega)
    have et : ((eCh E v).take (k + 1)).reverse = u :: ((eCh E v).take k).reverse := by
      rw [List.take_add_one, hu]
      simp
    obtain ⟨a, d, q1, q2⟩ := comes_m (r := r) (k := eVk E u) hy hx (by omega) e1 e2
    have h' : EV nb nv vb E (xu hi 90 31 a) := h.u 31 _ (by decide) (Or.inr (by decide))
    have e99u : xu hi 90 31 a 99 u = nI (eVk E u) := by rw [xu_ne2 _ _ (Or.inl (by decide)), e99]
    unfold F_X12_sink_20 F_X12_under
    rw [nI_s1 (by omega), if_neg (nI_pos (by omega)), under_m h v hv 1000000 k u (by omega) (by omega) hu, xbI_some, if_pos (xok_t (by omega) (by decide)), cl_nI (by omega), e99, q1, xbI_some, e99u, show nI k + (-1 : Int32) = nI k - 1 from (Int32.sub_eq_add_neg _ _).symm, et]
    simp only [List.map_cons, List.cons_append, hdn, cup]
    by_cases c : hd1 x.1 y (eVk E u) = 0
    · obtain ⟨z1, z2⟩ := q2 c
      obtain ⟨a', d', p1, p2⟩ := ih n (eVk E u) (ent (eVk E u) x) (xu hi 90 31 a) (xu hl 90 32 d) h' (by omega) (by omega) (by
        by_cases c8 : eVk E u = 8
        · exact Or.inl c8
        · exact Or.inr ⟨by omega, by rw [ent_1, if_pos (by omega)]⟩) (by
        rw [ent_1]
        by_cases c7 : eVk E u ≤ 7
        · rw [if_pos c7]; omega
        · rw [if_neg c7]; exact hx) (by rw [xu_at, z1]) (by rw [xu_at, z2])
      rw [ent_1] at p1 p2
      rw [if_pos c, if_pos c, p1, xu_xu, xu_xu]
      exact ⟨a', d', rfl, p2⟩
    · rw [if_neg c, if_neg c, fnl_n _ c]
      exact ⟨a, d, rfl, fun q => absurd q c⟩
theorem sink_m (h : EV nb nv vb E hi) {v c y : Nat} {x : Nat × Int64} (hv : v < nv) {at' : Int32} {ci : Bool} (ha : cAt E nb nv vb v at' ci c) (hy : y = 8 ∨ (y ≤ 7 ∧ x.1 = y)) (hx : x.1 ≤ 10) (e1 : hi 90 31 = nI x.1) (e2 : hl 90 32 = x.2) : ∃ a d, F_X12_sink (nI v) (nI y) at' hi hl r = some (fnl (hdn x.1 y (dl E v)) (ci || decide (at' = -1000)), xu hi 90 31 a, xu hl 90 32 d, r) ∧ (hdn x.1 y (dl E v) = 0 → a = nI (cup (dl E v) x).1 ∧ d = (cup (dl E v) x).2) := by
  obtain ⟨n8, n6, hl4, hbo, e9, e100, -⟩ := ev_v h hv
  obtain ⟨a, d, q1, q2⟩ := sink_l (r := r) hv ha (eCh E v).length 1000000 y x hi hl h (Nat.le_refl _) (by omega) hy hx e1 e2
  have ed : ((eCh E v).take (eCh E v).length).reverse.map (eVk E) ++ [eBk E (eBo E v)] = dl E v := by
    unfold dl kl
    rw [List.take_length, List.map_reverse]
  rw [ed] at q1 q2
  refine ⟨a, d, ?_, q2⟩
  unfold F_X12_sink
  rw [bank_mn h hv, xbI_some, if_pos (xok_t (by omega) (by decide)), cl_nI (by omega), e100, q1]
theorem write_m (h : EV nb nv vb E hi) {v p y : Nat} {x : Nat × Int64} (hv : v < nv) (hp : p ≤ 100) (hy : y = 8 ∨ (y ≤ 7 ∧ x.1 = y)) (hx : x.1 ≤ 10) (e1 : hi 90 31 = nI x.1) (e2 : hl 90 32 = x.2) : ∃ a d t, F_X12_write (nI v) (nI p) (nI y) hi hl r = some (wrc E v (p : Int) x.1 y, xu (xu hi 90 31 a) 90 33 t, xu hl 90 32 d, r) ∧ (wrc E v (p : Int) x.1 y = 0 → a = nI (cup (dl E v) x).1 ∧ d = (cup (dl E v) x).2 ∧ t = nI (cix E v (p : Int))) := by
  unfold F_X12_write
  rw [place_mn h hv hp, xbI_some]
  cases e : pl E v (p : Int) with
  | none =>
    refine ⟨hi 90 31, hl 90 32, hi 90 33, ?_, fun z => ?_⟩
    · rw [show encp none = (-1000 : Int32) from rfl, if_pos rfl, wrc_n e, xu_id hi rfl, xu_id hi rfl, xu_id _ rfl]
    · rw [wrc_n e] at z
      exact absurd z (by decide +kernel)
  | some q =>
    have hq := pl_B h hv (by omega) e
    obtain ⟨a, d, q1, q2⟩ := sink_m (hl := hl) (r := r) h hv (cAt_p h hv hq) hy hx e1 e2
    rw [decide_eq_false (neTh hq), Bool.or_false] at q1
    have h' : EV nb nv vb E (xu hi 90 31 a) := h.u 31 _ (by decide) (Or.inr (by decide))
    have ew : wrc E v (p : Int) x.1 y = fnl (hdn x.1 y (dl E v)) (inb E v q) := by
      rw [wrc_s e]
      rfl
    refine ⟨a, d, (12 : Int32) * nI (eBo E v) + Int32.ofInt q, ?_, fun z => ?_⟩
    · rw [show encp (some q) = Int32.ofInt q from rfl, if_neg (neTh hq), q1, xbI_some, bank_mn h' hv, xbI_some, ew]
    · obtain ⟨q', e', hb, ec, hh⟩ := wrc_0 z
      rw [e] at e'
      obtain rfl := Option.some.inj e'
      obtain ⟨z1, z2⟩ := q2 hh
      exact ⟨z1, z2, by rw [ec]; exact (inb_ix h hv hb).2.2.2.2.1⟩
theorem cAt_n (v : Nat) (hv : v < nv) : cAt E nb nv vb v (-1000) false 0 := by
  refine ⟨fun hi hl r h => ?_, fun q => absurd q (by decide)⟩
  have k := isCell_i (hl := hl) (r := r) h hv (x := -100) (by omega)
  obtain ⟨n8, n6, hl4, hbo, e9, e100, -⟩ := ev_v h hv
  obtain ⟨b1, b2, b3, b4, b5, b6, b7⟩ := ev_b h hv
  have m : (-1000 : Int32).toInt = -1000 := by decide +kernel
  rw [isCell_m (by omega) b2 b7, m, if_neg (by omega)]
  rfl
end WRT
