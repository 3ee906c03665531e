section REF2
variable {hi : Nat → Nat → Int32} {hl : Nat → Nat → Int64} {r : xRr} {nb nv : Nat} {vb : Nat → Nat} {E : yE}
/-- what is asked of a place: is it a cell (ci), is no place asked -/
def cAt (E : yE) (nb nv : Nat) (vb : Nat → Nat) (v : Nat) (at' : Int32) (ci : Bool) (c : Nat) : Prop :=
  (∀ hi hl r, EV nb nv vb E hi → F_X12_isCell (nI (eBo E v)) at' hi hl r = some (if ci = true then 1 else 0, hi, hl, r)) ∧ (ci = true → (12 : Int32) * nI (eBo E v) + at' = nI c ∧ c < 72 ∧ ¬ at' = -1000)
theorem fetch_m (h : EV nb nv vb E hi) {v top c : Nat} (hv : v < nv) (ht : top ≤ 8) {at' : Int32} {ci : Bool} (ha : cAt E nb nv vb v at' ci c) : ∃ a d, F_X12_fetch (nI v) (nI top) at' hi hl r = some (tku (eBk E (eBo E v)) (ci || decide (at' = -1000)) (tlp E v top), xu hi 90 31 a, xu hl 90 32 d, r) ∧ (tku (eBk E (eBo E v)) (ci || decide (at' = -1000)) (tlp E v top) = 0 → ci = true → ∀ x : Nat × Int64, hi 93 c = nI x.1 → hl 94 c = x.2 → a = nI (cup (tlp E v top) x).1 ∧ d = (cup (tlp E v top) x).2) := by
  obtain ⟨n8, n6, hl4, hbo, e9, e100, -⟩ := ev_v h hv
  obtain ⟨b1, b2, b3, b4, b5, b6, b7⟩ := ev_b h hv
  have hp := ch_pos h hv
  obtain ⟨u, hu, hu1, hu2, hu3, -, -, e99⟩ := ch_u h hv (i := 0) hp
  have et := tlp_at h hv top (i := 0) hp hu
  generalize eb : (if 0 = (eCh E v).length - 1 then top else eVk E u) = b at et
  rw [List.drop_zero, Nat.zero_add] at et
  have hb : b ≤ 8 := by
    rw [← eb]
    by_cases c : 0 = (eCh E v).length - 1
    · rw [if_pos c]; exact ht
    · rw [if_neg c]; exact hu3
  unfold F_X12_fetch
  rw [bank_mn h hv, xbI_some, refused_m (by omega) b1 b5, xbI_some]
  by_cases c11 : eBk E (eBo E v) = 11
  · refine ⟨hi 90 31, hl 90 32, ?_, fun z => ?_⟩
    · rw [if_pos c11, show (0 : Int32) = nI 0 from rfl, fetch_x h hv _ _ _ (by decide +kernel), et, c11]
      simp only [tku]
      rw [tk1_11 b (by omega), if_neg (by decide +kernel), xu_id _ rfl, xu_id _ rfl]
    · rw [et, c11] at z
      simp only [tku] at z
      rw [tk1_11 b (by omega), if_neg (by decide +kernel)] at z
      exact absurd z (by decide +kernel)
  by_cases c12 : eBk E (eBo E v) = 12
  · refine ⟨hi 90 31, hl 90 32, ?_, fun z => ?_⟩
    · rw [if_neg c11, if_pos c12, show (0 : Int32) = nI 0 from rfl, fetch_x h hv _ _ _ (by decide +kernel), et, c12]
      simp only [tku]
      rw [tk1_12 b (by omega), if_neg (by decide +kernel), xu_id _ rfl, xu_id _ rfl]
    · rw [et, c12] at z
      simp only [tku] at z
      rw [tk1_12 b (by omega), if_neg (by decide +kernel)] at z
      exact absurd z (by decide +kernel)
  rw [if_neg c11, if_neg c12]
  have g1 : ¬ nI (eCh E v).length ≤ 0 := by rw [show (0 : Int32) = nI 0 from rfl, nI_leI (by omega) (by decide)]; omega
  have first : F_X12_fetch_18 1000000 (nI v) (nI top) at' (nI (eBo E v)) 0 0 hi hl r = F_X12_fetch_60 (F_X12_fetch_18 999999) (nI v) (nI top) at' (nI (eBo E v)) 0 (nI b) hi hl r := by
    show F_X12_fetch_18 (999999 + 1) _ _ _ _ _ _ _ _ _ = _
    conv => lhs; unfold F_X12_fetch_18 F_X12_under
    rw [if_pos (xok_t (by omega) (by decide)), cl_nI (by omega), e100, if_neg g1, if_pos rfl]
    have ku := under_m (hl := hl) (r := r) h v hv 1000000 0 u (by omega) hp hu
    rw [show nI 0 = (0 : Int32) from rfl] at ku
    rw [ku, xbI_some]
    by_cases c : 0 = (eCh E v).length - 1
    · have := ch_top h hv (i := 0) (by omega) hu
      subst this
      rw [if_pos rfl, ← eb, if_pos c]
    · have := ch_lt h hv (i := 0) (by omega) hu
      have ne : ¬ nI u = nI v := by rw [nI_eq (by omega) (by omega)]; omega
      rw [if_neg ne, if_pos (xok_t (by omega) (by decide)), cl_nI (by omega), e99, ← eb, if_neg c]
  obtain ⟨k1, k2⟩ := ha
  /- behind the look at the cell: hand h0 l0 -/
  have rest : ∀ h0 l0, ∃ a d, F_X12_fetch_140 (F_X12_fetch_18 999999) (nI v) (nI top) at' (nI (eBo E v)) 0 (nI b) (nI (eBk E (eBo E v))) (xu hi 90 31 h0) (xu hl 90 32 l0) r = some (tku (eBk E (eBo E v)) (ci || decide (at' = -1000)) (tlp E v top), xu hi 90 31 a, xu hl 90 32 d, r) ∧ (tku (eBk E (eBo E v)) (ci || decide (at' = -1000)) (tlp E v top) = 0 → ∀ x : Nat × Int64, h0 = nI x.1 → l0 = x.2 → a = nI (cup (tlp E v top) x).1 ∧ d = (cup (tlp E v top) x).2) := by
    intro h0 l0
    obtain ⟨a, d, et1, et2⟩ := taken_m (hi := xu hi 90 31 h0) (hl := xu hl 90 32 l0) (r := r) (g := eBk E (eBo E v)) (b := b) (by omega) hb
    have hE : EV nb nv vb E (xu hi 90 31 a) := h.u 31 _ (by decide) (Or.inr (by decide))
    obtain ⟨a', d', q1, q2⟩ := fetch_l (r := r) hv ht at' (nI (eBo E v)) ((eCh E v).length - 1) 999999 1 b (xu hi 90 31 a) (xu hl 90 32 d) hE (by omega) (by omega) (by omega) (fun hlt => ⟨u, hu, by rw [← eb, if_neg (by omega)]⟩)
    rw [xu_xu, xu_xu] at et1
    unfold F_X12_fetch_140 F_X12_fetch_182 F_X12_fetch_184
    rw [et1, xbI_some, et, show (0 : Int32) + 1 = nI 1 from rfl]
    simp only [tku, cup]
    by_cases c0 : tk1 (eBk E (eBo E v)) b = 0
    · rw [if_pos c0, if_pos c0, if_pos trivial]
      by_cases c1 : at' = -1000
      · have c1' : (ci || decide (at' = -1000)) = true := by simp [c1]
        rw [if_pos c1, c1', if_pos rfl, c0]
        refine ⟨a', d', by rw [q1, xu_xu, xu_xu], fun z x e1 e2 => ?_⟩
        obtain ⟨z1, z2⟩ := et2 c0 x (by rw [xu_at, e1]) (by rw [xu_at, e2])
        exact q2 z (ent b x) (by rw [xu_at, z1]) (by rw [xu_at, z2])
      · rw [if_neg c1, k1 _ _ _ hE, xbI_some]
        cases ci with
        | true =>
          rw [show (if true = true then (1 : Int32) else 0) = 1 from rfl, if_neg (by decide), Bool.true_or, if_pos rfl, c0]
          refine ⟨a', d', by rw [q1, xu_xu, xu_xu], fun z x e1 e2 => ?_⟩
          obtain ⟨z1, z2⟩ := et2 c0 x (by rw [xu_at, e1]) (by rw [xu_at, e2])
          exact q2 z (ent b x) (by rw [xu_at, z1]) (by rw [xu_at, z2])
        | false =>
          rw [show (if false = true then (1 : Int32) else 0) = 0 from rfl, if_pos rfl, Bool.false_or, decide_eq_false c1, if_neg (by decide)]
          refine ⟨a, d, by rw [show (999999 : Nat) = 999998 + 1 from rfl, fetch_x hE hv _ _ _ (by decide +kernel)], fun z => absurd z (by decide +kernel)⟩
    · rw [if_neg c0, if_neg c0]
      refine ⟨a, d, by rw [show (999999 : Nat) = 999998 + 1 from rfl, fetch_x hE hv _ _ _ c0], fun z => absurd z c0⟩
  rw [first]
  unfold F_X12_fetch_60 F_X12_fetch_91
  rw [if_pos rfl, if_pos (xok_t (by omega) (by decide)), cl_nI (by omega), b5, if_pos rfl, k1 _ _ _ h, xbI_some]
  cases ci with
  | true =>
    obtain ⟨k3, k4, -⟩ := k2 rfl
    obtain ⟨a, d, q1, q2⟩ := rest (hi 93 c) (hl 94 c)
    rw [show (if true = true then (1 : Int32) else 0) = 1 from rfl, if_neg (by decide), k3, if_pos (xok_t k4 (by decide)), cl_nI (by omega)]
    exact ⟨a, d, q1, fun z _ x e1 e2 => q2 z x e1 e2⟩
  | false =>
    obtain ⟨a, d, q1, q2⟩ := rest (hi 90 31) (hl 90 32)
    rw [xu_id hi rfl, xu_id hl rfl] at q1
    rw [show (if false = true then (1 : Int32) else 0) = 0 from rfl, if_pos rfl]
    exact ⟨a, d, q1, fun _ q => absurd q (by decide)⟩
theorem cAt_p (h : EV nb nv vb E hi) {v : Nat} (hv : v < nv) {x : Int} (hx : -100 ≤ x ∧ x ≤ 100) : cAt E nb nv vb v (Int32.ofInt x) (inb E v x) (12 * eBo E v + x.toNat) :=
  ⟨fun hi hl r h => isCell_i h hv hx, fun hb => ⟨(inb_ix h hv hb).2.2.2.2.1, (inb_ix h hv hb).2.1, neTh hx⟩⟩
theorem read_m (h : EV nb nv vb E hi) {v p : Nat} (hv : v < nv) (hp : p ≤ 100) : ∃ a d, F_X12_read (nI v) (nI p) hi hl r = some (rdc E v (p : Int), xu hi 90 31 a, xu hl 90 32 d, r) ∧ (rdc E v (p : Int) = 0 → ∀ x : Nat × Int64, hi 93 (cix E v (p : Int)) = nI x.1 → hl 94 (cix E v (p : Int)) = x.2 → a = nI (cup (kl E v) x).1 ∧ d = (cup (kl E v) x).2) := by
  obtain ⟨n8, n6, hl4, hbo, e9, e100, -, -, e99, k8⟩ := ev_v h hv
  unfold F_X12_read
  rw [place_mn h hv hp, xbI_some]
  cases e : pl E v (p : Int) with
  | none =>
    refine ⟨hi 90 31, hl 90 32, ?_, fun z => ?_⟩
    · rw [show encp none = (-1000 : Int32) from rfl, if_pos rfl, rdc_n e, xu_id _ rfl, xu_id _ rfl]
    · rw [rdc_n e] at z
      exact absurd z (by decide +kernel)
  | some x =>
    have hx := pl_B h hv (by omega) e
    obtain ⟨a, d, q1, q2⟩ := fetch_m (hl := hl) (r := r) h hv k8 (cAt_p h hv hx)
    rw [tlp_own h hv, decide_eq_false (neTh hx), Bool.or_false] at q1 q2
    refine ⟨a, d, ?_, fun z y e1 e2 => ?_⟩
    · rw [show encp (some x) = Int32.ofInt x from rfl, if_neg (neTh hx), if_pos (xok_t (by omega) (by decide)), cl_nI (by omega), e99, q1, xbI_some, rdc_s e]
    · obtain ⟨x', e', hb, -⟩ := rdc_0 h hv z
      rw [e] at e'
      obtain rfl := Option.some.inj e'
      rw [cix_s e] at e1 e2
      rw [rdc_s e] at z
      exact q2 z hb y e1 e2
theorem comes_m {y k : Nat} {x : Nat × Int64} (hy : y = 8 ∨ (y ≤ 7 ∧ x.1 = y)) (hx : x.1 ≤ 10) (hk : k ≤ 10) (e1 : hi 90 31 = nI x.1) (e2 : hl 90 32 = x.2) : ∃ a d, F_X12_comes (nI y) (nI k) hi hl r = some (hd1 x.1 y k, xu hi 90 31 a, xu hl 90 32 d, r) ∧ (hd1 x.1 y k = 0 → a = nI (ent k x).1 ∧ d = (ent k x).2) := by
  have k8 : (nI k = (8 : Int32)) = (k = 8) := nI_eq' (b := 8) (by omega) (by decide)
  have k9 : (nI k = (9 : Int32)) = (k = 9) := nI_eq' (b := 9) (by omega) (by decide)
  have kl8 : (nI k ≤ (8 : Int32)) = (k ≤ 8) := nI_le' (b := 8) (by omega) (by decide)
  have y8 : (nI y = (8 : Int32)) = (y = 8) := nI_eq' (b := 8) (by omega) (by decide)
  have x10 : (nI x.1 = (10 : Int32)) = (x.1 = 10) := nI_eq' (b := 10) (by omega) (by decide)
  have x9 : (nI x.1 = (9 : Int32)) = (x.1 = 9) := nI_eq' (b := 9) (by omega) (by decide)
  have x4 : (nI x.1 = (4 : Int32)) = (x.1 = 4) := nI_eq' (b := 4) (by omega) (by decide)
  have ok : ∀ c, hd1 x.1 y k = c → 8 ≤ k → (some (c, hi, hl, r) : Option (Int32 × xSt)) = some (hd1 x.1 y k, xu hi 90 31 (hi 90 31), xu hl 90 32 (hl 90 32), r) ∧ (hd1 x.1 y k = 0 → hi 90 31 = nI (ent k x).1 ∧ hl 90 32 = (ent k x).2) := by
    intro c ec h8
    refine ⟨by rw [ec, xu_id _ rfl, xu_id _ rfl], fun _ => ?_⟩
    unfold ent
    rw [if_neg (by omega)]
    exact ⟨e1, e2⟩
  have no : ∀ c, hd1 x.1 y k = c → c ≠ 0 → (some (c, hi, hl, r) : Option (Int32 × xSt)) = some (hd1 x.1 y k, xu hi 90 31 (hi 90 31), xu hl 90 32 (hl 90 32), r) ∧ (hd1 x.1 y k = 0 → hi 90 31 = nI (ent k x).1 ∧ hl 90 32 = (ent k x).2) := by
    intro c ec h8
    exact ⟨by rw [ec, xu_id _ rfl, xu_id _ rfl], fun q => absurd (ec.symm.trans q) h8⟩
  have m7 : (-7 : Int32) ≠ 0 := by decide +kernel
  have m9 : (-9 : Int32) ≠ 0 := by decide +kernel
  have wid : ∀ z, z ≤ 10 → k ≤ 7 → hd1 x.1 y k = (if widb z k then 0 else -7) → ∃ a d, F_X12_comes_120 (nI k) (nI z) hi hl r = some (hd1 x.1 y k, xu hi 90 31 a, xu hl 90 32 d, r) ∧ (hd1 x.1 y k = 0 → a = nI (ent k x).1 ∧ d = (ent k x).2) := by
    intro z hz h7 ez
    unfold F_X12_comes_120
    rw [widens_m z (by omega) k (by omega), xbP_some]
    by_cases cw : widb z k = true
    · refine ⟨nI k, rnd k (hl 90 32), ?_, fun _ => ?_⟩
      · rw [if_pos cw, if_neg (by decide), as_m k (by omega), xbP_some, ez, if_pos cw]
      · unfold ent
        rw [if_pos (by omega), e2]
        exact ⟨rfl, rfl⟩
    · rw [if_neg cw] at ez
      obtain ⟨q1, q2⟩ := no _ ez m7
      refine ⟨hi 90 31, hl 90 32, ?_, q2⟩
      rw [if_neg cw, if_pos rfl, q1]
  unfold F_X12_comes F_X12_comes_61 F_X12_comes_81 F_X12_comes_106
  rw [e1]
  simp only [k8, k9, kl8, y8, x10, x9, x4]
  by_cases c8 : k = 8
  · subst c8
    rw [if_pos rfl]
    have q := hd1_8 x.1 (by omega) y (by omega)
    by_cases cy : y = 8
    · rw [if_pos cy]
      rw [if_pos cy] at q
      exact ⟨_, _, ok _ q (by omega)⟩
    · rw [if_neg cy]
      rw [if_neg cy] at q
      exact ⟨_, _, ok _ q (by omega)⟩
  · rw [if_neg c8]
    by_cases c7 : k ≤ 8
    · rw [if_pos c7]
      rcases hy with hy | ⟨hy, hxy⟩
      · subst hy
        rw [if_pos rfl]
        have q := hd1_any x.1 (by omega) k (by omega)
        by_cases c10 : x.1 = 10
        · rw [if_pos c10]
          rw [if_pos c10] at q
          exact ⟨_, _, no _ q m9⟩
        · rw [if_neg c10, if_pos rfl]
          rw [if_neg c10] at q
          exact wid x.1 hx (by omega) q
      · rw [if_neg (show ¬ y = 8 by omega), if_neg (show ¬ y = 8 by omega)]
        refine wid y (by omega) (by omega) ?_
        rw [hxy]
        exact hd1_own y (by omega) k (by omega)
    · rw [if_neg c7]
      by_cases c9 : k = 9
      · subst c9
        rw [if_pos rfl]
        have q := hd1_9 x.1 (by omega) y (by omega)
        by_cases cy : y = 8
        · simp only [if_pos cy]
          by_cases d9 : x.1 = 9
          · rw [if_pos d9, if_neg (by decide)]
            rw [if_pos ⟨cy, Or.inl d9⟩] at q
            exact ⟨_, _, ok _ q (by omega)⟩
          · rw [if_neg d9, if_pos trivial]
            by_cases d10 : x.1 = 10
            · rw [if_pos d10]
              rw [if_pos ⟨cy, Or.inr d10⟩] at q
              exact ⟨_, _, ok _ q (by omega)⟩
            · rw [if_neg d10]
              rw [if_neg (by omega)] at q
              exact ⟨_, _, ok _ q (by omega)⟩
        · simp only [if_neg cy]
          rw [if_neg (by omega)] at q
          obtain ⟨q1, q2⟩ := ok _ q (by omega)
          refine ⟨_, _, ?_, q2⟩
          rw [← q1]
          by_cases d9 : x.1 = 9
          · rw [if_pos d9]
          · rw [if_neg d9]
      · have c10 : k = 10 := by omega
        subst c10
        rw [if_neg (by decide)]
        have q := hd1_10 x.1 (by omega) y (by omega)
        by_cases cy : y = 8
        · simp only [if_pos cy]
          by_cases d9 : x.1 = 4
          · rw [if_pos d9, if_neg (by decide)]
            rw [if_pos ⟨cy, Or.inl d9⟩] at q
            exact ⟨_, _, ok _ q (by omega)⟩
          · rw [if_neg d9, if_pos trivial]
            by_cases d10 : x.1 = 10
            · rw [if_pos d10]
              rw [if_pos ⟨cy, Or.inr d10⟩] at q
              exact ⟨_, _, ok _ q (by omega)⟩
            · rw [if_neg d10]
              rw [if_neg (by omega)] at q
              exact ⟨_, _, ok _ q (by omega)⟩
        · simp only [if_neg cy]
          rw [if_neg (by omega)] at q
          obtain ⟨q1, q2⟩ := ok _ q (by omega)
          refine ⟨_, _, ?_, q2⟩
          rw [← q1]
          by_cases d9 : x.1 = 4
          · rw [if_pos d9]
          · rw [if_neg d9]
end REF2
