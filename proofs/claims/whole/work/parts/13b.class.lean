/-! the class reads and writes -/
theorem xu_id {α : Type} (f : Nat → Nat → α) {a j : Nat} {v : α} (h : f a j = v) : xu f a j v = f := by
  funext x y
  simp only [xu]
  by_cases c : x = a ∧ y = j
  · rw [if_pos c, c.1, c.2, h]
  · rw [if_neg c]
theorem xu_xu {α : Type} (f : Nat → Nat → α) (a j : Nat) (v w : α) : xu (xu f a j v) a j w = xu f a j w := by
  funext x y
  simp only [xu]
  by_cases c : x = a ∧ y = j
  · rw [if_pos c, if_pos c]
  · rw [if_neg c, if_neg c, if_neg c]
def isTh (t : Nat) : Prop := t ∈ [15, 16, 18, 19, 20, 21, 22, 23, 24, 25, 26, 27, 28, 29, 85, 86]
theorem isTh.o {t : Nat} (h : isTh t) : xisO t 5 = true ∧ t ∉ xEr ∧ t ≠ 90 := by
  unfold isTh at h
  revert t
  decide
section CLS
variable {hi : Nat → Nat → Int32} {hl : Nat → Nat → Int64} {r : xRr} {nb nv : Nat} {vb : Nat → Nat} {E : yE}
theorem place_cn (h : EV nb nv vb E hi) {v p : Nat} (hv : v < nv) (hp : p ≤ 100) : F_X8_placeInBank (nI v) (nI p) hi hl r = some (encp (pl E v (p : Int)), hi, hl, r) := place_c h.2 hv (p := (p : Int)) (by omega)
theorem place_mn (h : EV nb nv vb E hi) {v p : Nat} (hv : v < nv) (hp : p ≤ 100) : F_X12_placeIn (nI v) (nI p) hi hl r = some (encp (pl E v (p : Int)), hi, hl, r) := by
  have := h.2.1
  exact place_m h.2 h.1.1 v 1000000 (p : Int) hv (by omega) (by omega)
theorem bank_mn (h : EV nb nv vb E hi) {v : Nat} (hv : v < nv) : F_X12_bankOf (nI v) hi hl r = some (nI (eBo E v), hi, hl, r) := by
  have := h.2.1
  exact bankOf_m h.2 h.1.1 v 1000000 hv (by omega)
theorem pl_B (h : EV nb nv vb E hi) {v : Nat} (hv : v < nv) {p x : Int} (hp : -100 ≤ p ∧ p ≤ 100) (e : pl E v p = some x) : -100 ≤ x ∧ x ≤ 100 :=
  plc_B h.2 _ p x (fun u hu => by have := ch_le h.2 v hv u (by simpa using hu); omega) hp e
theorem inb_if {v : Nat} {x : Int} : (if 0 ≤ x ∧ x ≤ (eBz E (eBo E v) : Int) - 1 then (1 : Int32) else 0) = if inb E v x = true then 1 else 0 := by
  unfold inb
  by_cases c : 0 ≤ x ∧ x < (eBz E (eBo E v) : Int)
  · rw [if_pos (by omega), if_pos (by simpa using c)]
  · rw [if_neg (by omega), if_neg (by simpa using c)]
theorem hasCell_i (h : EV nb nv vb E hi) {v : Nat} (hv : v < nv) {x : Int} (hx : -100 ≤ x ∧ x ≤ 100) : F_X0_hasCell (nI (eBo E v)) (Int32.ofInt x) hi hl r = some (if inb E v x = true then 1 else 0, hi, hl, r) := by
  obtain ⟨n8, n6, hl4, hbo, -⟩ := ev_v h hv
  obtain ⟨b1, b2, b3, b4, b5, b6, b7⟩ := ev_b h hv
  rw [hasCell_c (by omega) b2 b6, oI_toInt (by omega), inb_if]
theorem isCell_i (h : EV nb nv vb E hi) {v : Nat} (hv : v < nv) {x : Int} (hx : -100 ≤ x ∧ x ≤ 100) : F_X12_isCell (nI (eBo E v)) (Int32.ofInt x) hi hl r = some (if inb E v x = true then 1 else 0, hi, hl, r) := by
  obtain ⟨n8, n6, hl4, hbo, -⟩ := ev_v h hv
  obtain ⟨b1, b2, b3, b4, b5, b6, b7⟩ := ev_b h hv
  rw [isCell_m (by omega) b2 b7, oI_toInt (by omega), inb_if]
theorem inb_ix (h : EV nb nv vb E hi) {v : Nat} (hv : v < nv) {x : Int} (hx : inb E v x = true) : 12 * eBo E v + x.toNat < 12 * nb ∧ 12 * eBo E v + x.toNat < 72 ∧ (12 * eBo E v + x.toNat) / 12 = eBo E v ∧ nI (eBo E v) * 12 + Int32.ofInt x = nI (12 * eBo E v + x.toNat) ∧ (12 : Int32) * nI (eBo E v) + Int32.ofInt x = nI (12 * eBo E v + x.toNat) ∧ eBk E (eBo E v) ≤ 10 := by
  obtain ⟨n8, n6, hl4, hbo, -⟩ := ev_v h hv
  obtain ⟨b1, b2, b3, b4, b5, b6, b7⟩ := ev_b h hv
  unfold inb at hx
  have hx' := of_decide_eq_true hx
  have e : Int32.ofInt x = nI x.toNat := by rw [← oI_nat x.toNat, Int.toNat_of_nonneg hx'.1]
  refine ⟨by omega, by omega, by omega, ?_, ?_, by omega⟩
  · rw [nI_mul12, e, nI_add, Nat.mul_comm]
  · rw [nI_12mul, e, nI_add]
theorem readRef_c (h : EV nb nv vb E hi) {v p : Nat} (hv : v < nv) (hp : p ≤ 100) : F_X8_readRefusal (nI v) (nI p) hi hl r = some (rdc E v (p : Int), hi, hl, r) := by
  obtain ⟨n8, n6, hl4, hbo, e9, -, e13, e12, -, k8⟩ := ev_v h hv
  unfold F_X8_readRefusal
  rw [place_cn h hv hp, xbI_some]
  cases e : pl E v (p : Int) with
  | none => rw [show encp none = (-1000 : Int32) from rfl, if_pos rfl, rdc_n e]
  | some x =>
    have hx := pl_B h hv (by omega) e
    rw [show encp (some x) = Int32.ofInt x from rfl, if_neg (neTh hx), if_pos (xok_t (by omega) (by decide)), cl_nI (by omega), e13, hasCell_i h hv hx, xbI_some, e12, takenUp_c h hv k8, xbI_some, tlp_own h hv, rdc_s e]
theorem writeRef_c (h : EV nb nv vb E hi) {v p th y : Nat} (hv : v < nv) (hp : p ≤ 100) (hth : th ≤ 10) (hy : y ≤ 8) : F_X8_writeRefusal (nI v) (nI p) (nI th) (nI y) hi hl r = some (wrc E v (p : Int) th y, hi, hl, r) := by
  obtain ⟨n8, n6, hl4, hbo, e9, -, e13, e12, -, k8⟩ := ev_v h hv
  unfold F_X8_writeRefusal
  rw [place_cn h hv hp, xbI_some]
  cases e : pl E v (p : Int) with
  | none => rw [show encp none = (-1000 : Int32) from rfl, if_pos rfl, wrc_n e]
  | some x =>
    have hx := pl_B h hv (by omega) e
    rw [show encp (some x) = Int32.ofInt x from rfl, if_neg (neTh hx), handed_d h hv hth hy, xbI_some, if_pos (xok_t (by omega) (by decide)), cl_nI (by omega), e13, hasCell_i h hv hx, xbI_some, wrc_s e]
    by_cases c : hdn th y (dl E v) = 0
    · rw [if_pos c, if_pos c]
      by_cases c2 : inb E v x = true
      · rw [if_pos c2, if_pos c2, if_neg (by decide)]
      · rw [if_neg c2, if_neg c2, if_pos rfl]
    · rw [if_neg c, if_neg c]
theorem rdc_0 (h : EV nb nv vb E hi) {v : Nat} (hv : v < nv) {p : Int} (h0 : rdc E v p = 0) : ∃ x, pl E v p = some x ∧ inb E v x = true ∧ cix E v p = 12 * eBo E v + x.toNat := by
  cases e : pl E v p with
  | none =>
    rw [rdc_n e] at h0
    exact absurd h0 (by decide +kernel)
  | some x =>
    refine ⟨x, rfl, ?_, cix_s e⟩
    rw [rdc_s e] at h0
    cases hb : inb E v x with
    | true => rfl
    | false =>
      rw [hb] at h0
      exact absurd h0 (tku_f _ _ (kl_ne h hv))
theorem wrc_0 {v : Nat} {p : Int} {th y : Nat} (h0 : wrc E v p th y = 0) : ∃ x, pl E v p = some x ∧ inb E v x = true ∧ cix E v p = 12 * eBo E v + x.toNat ∧ hdn th y (dl E v) = 0 := by
  cases e : pl E v p with
  | none =>
    rw [wrc_n e] at h0
    exact absurd h0 (by decide +kernel)
  | some x =>
    rw [wrc_s e] at h0
    by_cases c : hdn th y (dl E v) = 0
    · rw [if_pos c] at h0
      refine ⟨x, rfl, ?_, cix_s e, c⟩
      cases hb : inb E v x with
      | true => rfl
      | false =>
        rw [hb, if_neg (by decide)] at h0
        exact absurd h0 (by decide +kernel)
    · rw [if_neg c] at h0
      exact absurd h0 c
theorem enter_c {t b : Nat} {x : Nat × Int64} (ht : xisO t 5 = true) (hb : b ≤ 12) (e1 : hi t 0 = nI x.1) (e2 : hl t 1 = x.2) : F_X6_enter t (nI b) hi hl r = some (xu hi t 0 (nI (ent b x).1), xu hl t 1 (ent b x).2, r) := by
  have e7 : ((7 : Int32) < nI b) = (7 < b) := nI_lt' (a := 7) (by decide) (by omega)
  unfold F_X6_enter ent
  simp only [e7]
  by_cases c : 7 < b
  · rw [if_pos c, if_neg (by omega), xu_id _ e1, xu_id _ e2]
  · rw [if_neg c, if_pos ht, if_pos (show b ≤ 7 by omega), e2, rounded_c b hb, xbP_some]
theorem kl_at {v i u : Nat} (hi9 : i < (eCh E v).length) (hu : (eCh E v)[i]? = some u) : (kl E v).drop i = eVk E u :: (kl E v).drop (i + 1) := by
  unfold kl
  rw [List.drop_eq_getElem_cons (by rw [List.length_map]; exact hi9), List.getElem_map]
  rw [List.getElem?_eq_getElem hi9] at hu
  rw [Option.some.inj hu]
theorem comeUp_l {v t : Nat} (hv : v < nv) (ht : isTh t) : ∀ k n i x hi hl, EV nb nv vb E hi → i + k = (eCh E v).length → k < n → hi t 0 = nI x.1 → hl t 1 = x.2 → F_X8_comeUp_2 n (nI v) t (nI i) hi hl r = some (xu hi t 0 (nI (cup ((kl E v).drop i) x).1), xu hl t 1 (cup ((kl E v).drop i) x).2, r) := by
  obtain ⟨t1, t2, t3⟩ := ht.o
  intro k
  induction k with
  | zero =>
    intro n i x hi hl h hik hn e1 e2
    obtain ⟨n, rfl⟩ : ∃ q, n = q + 1 := ⟨n - 1, by omega⟩
    obtain ⟨n8, n6, hl4, hbo, e9, -⟩ := ev_v h hv
    unfold F_X8_comeUp_2
    rw [if_pos (xok_t (by omega) (by decide)), cl_nI (by omega), e9, if_pos ((nI_leI (by omega) (by omega)).mpr (by omega)), List.drop_eq_nil_of_le (by unfold kl; rw [List.length_map]; omega)]
    simp only [cup]
    rw [xu_id _ e1, xu_id _ e2]
  | succ k ih =>
    intro n i x hi hl h hik hn e1 e2
    obtain ⟨n, rfl⟩ : ∃ q, n = q + 1 := ⟨n - 1, by omega⟩
    obtain ⟨n8, n6, hl4, hbo, e9, -⟩ := ev_v h hv
    obtain ⟨u, hu, hu1, hu2, hu3, e10, e12, -⟩ := ch_u h hv (i := i) (by omega)
    have g1 : ¬ nI (eCh E v).length ≤ nI i := by rw [nI_leI (by omega) (by omega)]; omega
    unfold F_X8_comeUp_2
    rw [if_pos (xok_t (by omega) (by decide)), cl_nI (by omega), e9, if_neg g1, nI_4, nI_add, Nat.mul_comm v 4, if_pos (xok_t (by omega) (by decide)), cl_nI (by omega), e10, if_pos (xok_t (by omega) (by decide)), cl_nI (by omega), e12, if_pos t1, enter_c t1 (by omega) e1 e2, xbV_some, show nI i + 1 = nI (i + 1) from nI_1 i]
    rw [ih n (i + 1) (ent (eVk E u) x) _ _ (h.u 0 _ t2 (Or.inl t3)) (by omega) (by omega) (xu_at _ _ _ _) (xu_at _ _ _ _), kl_at (by omega) hu, xu_xu, xu_xu]
    rfl
theorem goDown_l {v t : Nat} (hv : v < nv) (ht : isTh t) : ∀ k n x hi hl, EV nb nv vb E hi → k ≤ (eCh E v).length → k < n → hi t 0 = nI x.1 → hl t 1 = x.2 → F_X8_goDown_9 n (nI v) t (nI k - 1) hi hl r = some (xu hi t 0 (nI (cup (((eCh E v).take k).reverse.map (eVk E)) x).1), xu hl t 1 (cup (((eCh E v).take k).reverse.map (eVk E)) x).2, r) := by
  obtain ⟨t1, t2, t3⟩ := ht.o
  intro k
  induction k with
  | zero =>
    intro n x hi hl h hk hn e1 e2
    obtain ⟨n, rfl⟩ : ∃ q, n = q + 1 := ⟨n - 1, by omega⟩
    unfold F_X8_goDown_9
    rw [if_pos (by decide)]
    simp only [List.take_zero, List.reverse_nil, List.map_nil, cup]
    rw [xu_id _ e1, xu_id _ e2]
  | succ k ih =>
    intro n x hi hl h hk hn e1 e2
    obtain ⟨n, rfl⟩ : ∃ q, n = q + 1 := ⟨n - 1, by omega⟩
    obtain ⟨n8, n6, hl4, hbo, e9, -⟩ := ev_v h hv
    obtain ⟨u, hu, hu1, hu2, hu3, e10, e12, -⟩ := ch_u h hv (i := k) (by omega)
    have et : ((eCh E v).take (k + 1)).reverse = u :: ((eCh E v).take k).reverse := by
      rw [List.take_add_one, hu]
      simp
    unfold F_X8_goDown_9
    rw [nI_s1 (by omega), if_neg (nI_pos (by omega)), nI_4, nI_add, Nat.mul_comm v 4, if_pos (xok_t (by omega) (by decide)), cl_nI (by omega), e10, if_pos (xok_t (by omega) (by decide)), cl_nI (by omega), e12, if_pos t1, enter_c t1 (by omega) e1 e2, xbV_some, show nI k + (-1 : Int32) = nI k - 1 from (Int32.sub_eq_add_neg _ _).symm]
    rw [ih n (ent (eVk E u) x) _ _ (h.u 0 _ t2 (Or.inl t3)) (by omega) (by omega) (xu_at _ _ _ _) (xu_at _ _ _ _), et, xu_xu, xu_xu]
    rfl
theorem take_n (h : EV nb nv vb E hi) {v p : Nat} (t : Nat) (hv : v < nv) (hp : p ≤ 100) (h0 : rdc E v (p : Int) ≠ 0) : F_X5_take (nI v) (nI p) t hi hl r = some (rdc E v (p : Int), hi, hl, r) := by
  unfold F_X5_take
  rw [readRef_c h hv hp, xbI_some, if_neg h0]
theorem take_y (h : EV nb nv vb E hi) {ck : Nat → Nat} {cn : Nat → Int64} (hc : CC nb ck cn hi hl) (ho : OKC nb (eBk E) ck cn) {v p t : Nat} (ht : isTh t) (hv : v < nv) (hp : p ≤ 100) (h0 : rdc E v (p : Int) = 0) : F_X5_take (nI v) (nI p) t hi hl r = some (0, xu hi t 0 (nI (cup (kl E v) (ck (cix E v (p : Int)), cn (cix E v (p : Int)))).1), xu hl t 1 (cup (kl E v) (ck (cix E v (p : Int)), cn (cix E v (p : Int)))).2, r) := by
  obtain ⟨n8, n6, hl4, hbo, e9, -, e13, e12, -, k8⟩ := ev_v h hv
  obtain ⟨t1, t2, t3⟩ := ht.o
  obtain ⟨x, e, hb, ec⟩ := rdc_0 h hv h0
  have hx := pl_B h hv (by omega) e
  obtain ⟨i1, i2, i3, i4, -, -⟩ := inb_ix h hv hb
  rw [← ec] at i1 i2 i3 i4
  obtain ⟨c1, c2⟩ := hc _ i1
  have oc := ho _ i1
  generalize cix E v (p : Int) = c at i1 i2 i3 i4 c1 c2 oc
  unfold F_X5_take F_X0_fetch F_X8_comeUp
  rw [readRef_c h hv hp, xbI_some, h0, if_pos rfl, if_pos (xok_t (by omega) (by decide)), place_cn h hv hp, xbI_some, cl_nI (by omega), e13, e, show encp (some x) = Int32.ofInt x from rfl, i4, if_pos (xok_t i2 (by decide)), if_pos t1, cl_nI (by omega), c1, c2, become_c t1 (by have := oc.le; omega), xbV_some, xbV_some]
  have k := comeUp_l (r := r) hv ht (eCh E v).length 1000000 0 (ck c, rnd (ck c) (cn c)) (xu hi t 0 (nI (ck c))) (xu hl t 1 (rnd (ck c) (cn c))) (h.u 0 _ t2 (Or.inl t3)) (by omega) (by omega) (xu_at _ _ _ _) (xu_at _ _ _ _)
  rw [show nI 0 = (0 : Int32) from rfl] at k
  rw [k, xbV_some, xu_xu, xu_xu, oc.2.2.2]
  rfl
theorem put_n (h : EV nb nv vb E hi) {v p t y : Nat} {x : Nat × Int64} (ht : isTh t) (hv : v < nv) (hp : p ≤ 100) (hx : x.1 ≤ 10) (hy : y ≤ 8) (e1 : hi t 0 = nI x.1) (h0 : wrc E v (p : Int) x.1 y ≠ 0) : F_X5_put (nI v) (nI p) t (nI y) hi hl r = some (wrc E v (p : Int) x.1 y, hi, hl, r) := by
  unfold F_X5_put
  rw [if_pos ht.o.1, e1, writeRef_c h hv hp hx hy, xbI_some, if_neg h0]
theorem put_y (h : EV nb nv vb E hi) {v p t y : Nat} {x : Nat × Int64} (ht : isTh t) (hv : v < nv) (hp : p ≤ 100) (hx : x.1 ≤ 10) (hy : y ≤ 8) (e1 : hi t 0 = nI x.1) (e2 : hl t 1 = x.2) (h0 : wrc E v (p : Int) x.1 y = 0) : F_X5_put (nI v) (nI p) t (nI y) hi hl r = some (0, xu (xu hi t 0 (nI (cup (dl E v) x).1)) 3 (cix E v (p : Int)) (nI (cup (dl E v) x).1), xu (xu hl t 1 (cup (dl E v) x).2) 4 (cix E v (p : Int)) (cup (dl E v) x).2, r) := by
  obtain ⟨n8, n6, hl4, hbo, e9, -, e13, e12, -, k8⟩ := ev_v h hv
  obtain ⟨b1, b2, b3, b4, b5, b6, b7⟩ := ev_b h hv
  obtain ⟨t1, t2, t3⟩ := ht.o
  obtain ⟨q, e, hb, ec, -⟩ := wrc_0 h0
  have hq := pl_B h hv (by omega) e
  obtain ⟨i1, i2, i3, i4, -, -⟩ := inb_ix h hv hb
  rw [← ec] at i1 i2 i3 i4
  generalize cix E v (p : Int) = c at i1 i2 i3 i4
  have k : F_X8_goDown_9 1000000 (nI v) t (nI (eCh E v).length - 1) hi hl r = some (xu hi t 0 (nI (cup (kl E v).reverse x).1), xu hl t 1 (cup (kl E v).reverse x).2, r) := by
    have k := goDown_l (r := r) hv ht (eCh E v).length 1000000 x hi hl h (Nat.le_refl _) (by omega) e1 e2
    rw [List.take_length, List.map_reverse] at k
    exact k
  have hE := h.u 0 (nI (cup (kl E v).reverse x).1) t2 (Or.inl t3)
  obtain ⟨-, -, -, -, -, -, e13', -⟩ := ev_v hE hv
  obtain ⟨-, -, -, b4', -⟩ := ev_b hE hv
  unfold F_X5_put F_X0_store F_X8_goDown
  rw [if_pos t1, e1, writeRef_c h hv hp hx hy, xbI_some, h0, if_pos rfl, if_pos (xok_t (by omega) (by decide)), cl_nI (by omega), e9]
  show xbV (F_X8_goDown_9 1000000 (nI v) t (nI (eCh E v).length - 1) hi hl r) _ = _
  rw [k, xbV_some]
  show (if xok (nI v) 8 = true then _ else _) = _
  rw [if_pos (xok_t (by omega) (by decide))]
  show xbI (F_X8_placeInBank (nI v) (nI p) (xu hi t 0 (nI (cup (kl E v).reverse x).1)) _ r) _ = _
  rw [place_cn hE hv hp, xbI_some, e13', if_pos (xok_t (by omega) (by decide)), if_pos t1, cl_nI (by omega), b4', e, show encp (some q) = Int32.ofInt q from rfl, i4]
  have k2 := enter_c (hi := xu hi t 0 (nI (cup (kl E v).reverse x).1)) (hl := xu hl t 1 (cup (kl E v).reverse x).2) (r := r) t1 b1 (xu_at _ _ _ _) (xu_at _ _ _ _)
  show xbV (xbV (F_X6_enter t (nI (eBk E (eBo E v))) (xu hi t 0 (nI (cup (kl E v).reverse x).1)) (xu hl t 1 (cup (kl E v).reverse x).2) r) _) _ = _
  rw [k2, xbV_some, if_pos (xok_t i2 (by decide)), cl_nI (by omega), xbV_some, xu_at, xu_at, xu_xu, xu_xu]
  unfold dl
  rw [cup_app]
  rfl
end CLS
