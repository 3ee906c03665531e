/-! what will be refused, told ahead -/
def krk : List Nat → Nat → Nat
  | [], k => k
  | b :: t, k => krk t (if b ≤ 7 then b else k)
theorem cup_krk : ∀ (L : List Nat) (x : Nat × Int64), (cup L x).1 = krk L x.1 := by
  intro L
  induction L with
  | nil => intro x; rfl
  | cons b t ih =>
    intro x
    simp only [cup, krk]
    rw [ih, ent_1]
theorem krk_le : ∀ (L : List Nat) k, k ≤ 7 → krk L k ≤ 7 := by
  intro L
  induction L with
  | nil => intro k h; exact h
  | cons b t ih =>
    intro k h
    simp only [krk]
    apply ih
    by_cases c : b ≤ 7
    · rw [if_pos c]; exact c
    · rw [if_neg c]; exact h
def kr (E : yE) (v : Nat) : Nat := krk (kl E v) (eBk E (eBo E v))
def fcd (E : yE) (w a : Nat) (p : Int) (b : Nat) (q : Int) : Int32 :=
  if rdc E a p = 0 then (if 8 ≤ eBk E (eBo E a) then 1
    else if w = 0 then wrc E b q (kr E a) (eVk E a)
    else if rdc E b q = 0 then (if 8 ≤ eBk E (eBo E b) then 1
      else if w = 4 then (if wrc E b q (kr E a) (eVk E a) = 0 then wrc E a p (kr E b) (eVk E b) else wrc E b q (kr E a) (eVk E a))
      else if nt (kr E a) = 0 then (if nt (kr E b) = 0 then wrc E b q (wdr (kr E a) (kr E b)) (if eVk E b = 8 then 8 else wdr (kr E a) (kr E b)) else nt (kr E b)) else nt (kr E a))
    else rdc E b q)
  else rdc E a p
def fno (c : Int32) : Nat := if c = 1 then 5 else if c = 0 then 6 else rk c
theorem cd1 : ∀ k, k < 7 → ¬ (-4 - nI k = (1 : Int32)) := by decide +kernel
theorem nt_t : ∀ k, k < 8 → nt k = 0 ∨ nt k = -7 := by decide +kernel
theorem fno_cd {c : Int32} (h : c = 1 ∨ CDp c) : fno c < 7 ∧ nI (fno c) = (if c = 1 then 5 else if c = 0 then 6 else -4 - c) := by
  unfold fno
  rcases h with h | h | ⟨k, hk, h⟩
  · rw [if_pos h, if_pos h]; exact ⟨by decide, rfl⟩
  · rw [h, if_neg (by decide), if_pos rfl, if_neg (by decide), if_pos rfl]; exact ⟨by decide, rfl⟩
  · obtain ⟨t1, t2, -, -⟩ := cd_t k hk
    rw [h, if_neg (cd1 k hk), if_neg t1, if_neg (cd1 k hk), if_neg t1, t2, rk_k hk]
    exact ⟨hk, rfl⟩
section FORE
variable {hi : Nat → Nat → Int32} {hl : Nat → Nat → Int64} {r : xRr} {nb nv : Nat} {vb : Nat → Nat} {E : yE} {C : yC}
theorem kindRead_c (h : EV nb nv vb E hi) {v : Nat} (hv : v < nv) : F_X8_kindRead (nI v) hi hl r = some (nI (kr E v), hi, hl, r) := by
  obtain ⟨n8, n6, hl4, hbo, e9, -, e13, -⟩ := ev_v h hv
  obtain ⟨b1, b2, b3, b4, b5, b6, b7⟩ := ev_b h hv
  have key : ∀ k n i x, i + k = (eCh E v).length → k < n → F_X8_kindRead_17 n (nI v) (nI x) (nI i) hi hl r = some (nI (krk ((kl E v).drop i) x), hi, hl, r) := by
    intro k
    induction k with
    | zero =>
      intro n i x hik hn
      obtain ⟨n, rfl⟩ : ∃ q, n = q + 1 := ⟨n - 1, by omega⟩
      unfold F_X8_kindRead_17
      rw [if_pos (xok_t (by omega) (by decide)), cl_nI (by omega), e9, if_pos ((nI_leI (by omega) (by omega)).mpr (by omega)), List.drop_eq_nil_of_le (by unfold kl; rw [List.length_map]; omega)]
      rfl
    | succ k ih =>
      intro n i x hik hn
      obtain ⟨n, rfl⟩ : ∃ q, n = q + 1 := ⟨n - 1, by omega⟩
      obtain ⟨u, hu, hu1, hu2, hu3, e10, e12, -⟩ := ch_u h hv (i := i) (by omega)
      have g1 : ¬ nI (eCh E v).length ≤ nI i := by rw [nI_leI (by omega) (by omega)]; omega
      have e7 : ((7 : Int32) < nI (eVk E u)) = (7 < eVk E u) := nI_lt' (a := 7) (by decide) (by omega)
      unfold F_X8_kindRead_17 F_X8_kindRead_57
      rw [if_pos (xok_t (by omega) (by decide)), cl_nI (by omega), e9, if_neg g1, nI_4, nI_add, Nat.mul_comm v 4, if_pos (xok_t (by omega) (by decide)), cl_nI (by omega), e10, if_pos (xok_t (by omega) (by decide)), cl_nI (by omega), e12, show nI i + 1 = nI (i + 1) from nI_1 i, kl_at (by omega) hu]
      simp only [e7, krk]
      by_cases c : 7 < eVk E u
      · rw [if_pos c, if_neg (by omega), ih n (i + 1) x (by omega) (by omega)]
      · rw [if_neg c, if_pos (by omega), ih n (i + 1) (eVk E u) (by omega) (by omega)]
  have k := key (eCh E v).length 1000000 0 (eBk E (eBo E v)) (by omega) (by omega)
  unfold F_X8_kindRead
  rw [if_pos (xok_t (by omega) (by decide)), cl_nI (by omega), e13, if_pos (xok_t (by omega) (by decide)), cl_nI (by omega), b4]
  exact k
theorem rdc_bk (h : EV nb nv vb E hi) {v : Nat} (hv : v < nv) {p : Int} (h0 : rdc E v p = 0) : eBk E (eBo E v) ≤ 10 := by
  obtain ⟨x, ex, hb, ec⟩ := rdc_0 h hv h0
  exact (inb_ix h hv hb).2.2.2.2.2
theorem readsAny_c (h : EV nb nv vb E hi) {v : Nat} (hv : v < nv) (hk : eBk E (eBo E v) ≤ 10) : F_X8_readsAnything (nI v) hi hl r = some (if 8 ≤ eBk E (eBo E v) then 1 else 0, hi, hl, r) := by
  obtain ⟨n8, n6, hl4, hbo, e9, -, e13, -⟩ := ev_v h hv
  obtain ⟨b1, b2, b3, b4, b5, b6, b7⟩ := ev_b h hv
  have e8 : (nI (eBk E (eBo E v)) < (8 : Int32)) = (eBk E (eBo E v) < 8) := nI_lt' (b := 8) (by omega) (by decide)
  have e10 : ((10 : Int32) < nI (eBk E (eBo E v))) = (10 < eBk E (eBo E v)) := nI_lt' (a := 10) (by decide) (by omega)
  unfold F_X8_readsAnything
  rw [if_pos (xok_t (by omega) (by decide)), cl_nI (by omega), e13, if_pos (xok_t (by omega) (by decide)), cl_nI (by omega), b4]
  simp only [e8, e10]
  by_cases c : eBk E (eBo E v) < 8
  · rw [if_pos c, if_neg (by omega)]
  · rw [if_neg c, if_neg (by omega), if_pos (by omega)]
theorem swapRef_c (h : EV nb nv vb E hi) {a p b q x z : Nat} (ha : a < nv) (hp : p ≤ 100) (hb : b < nv) (hq : q ≤ 100) (hx : x ≤ 10) (hz : z ≤ 10) : F_X5_swapRefusal (nI a) (nI p) (nI x) (nI b) (nI q) (nI z) hi hl r = some (if wrc E b (q : Int) x (eVk E a) = 0 then wrc E a (p : Int) z (eVk E b) else wrc E b (q : Int) x (eVk E a), hi, hl, r) := by
  obtain ⟨n8, n6, -, -, -, -, -, a12, -, ak8⟩ := ev_v h ha
  obtain ⟨-, -, -, -, -, -, -, b12, -, bk8⟩ := ev_v h hb
  unfold F_X5_swapRefusal
  rw [if_pos (xok_t (by omega) (by decide)), cl_nI (by omega), a12, writeRef_c h hb hq hx ak8, xbI_some, if_pos (xok_t (by omega) (by decide)), cl_nI (by omega), b12, writeRef_c h ha hp hz bk8, xbI_some]
  by_cases c : wrc E b (q : Int) x (eVk E a) = 0
  · rw [if_pos c, if_pos c]
  · rw [if_neg c, if_neg c]
theorem fcd_cd (h : EV nb nv vb E hi) {w a b : Nat} (p q : Int) (ha : a < nv) (hb : b < nv) : fcd E w a p b q = 1 ∨ CDp (fcd E w a p b q) := by
  have ak := (ev_v h ha).2.2.2.2.2.2.2.2.2
  have bk := (ev_v h hb).2.2.2.2.2.2.2.2.2
  unfold fcd
  by_cases c1 : rdc E a p = 0
  · rw [if_pos c1]
    by_cases k1 : 8 ≤ eBk E (eBo E a)
    · rw [if_pos k1]; exact Or.inl rfl
    rw [if_neg k1]
    have ka := krk_le (kl E a) (eBk E (eBo E a)) (by omega)
    change kr E a ≤ 7 at ka
    by_cases c2 : w = 0
    · rw [if_pos c2]; exact Or.inr (cd_wrc h hb q (by omega) ak)
    rw [if_neg c2]
    by_cases c3 : rdc E b q = 0
    · rw [if_pos c3]
      by_cases k2 : 8 ≤ eBk E (eBo E b)
      · rw [if_pos k2]; exact Or.inl rfl
      rw [if_neg k2]
      have kb := krk_le (kl E b) (eBk E (eBo E b)) (by omega)
      change kr E b ≤ 7 at kb
      refine Or.inr ?_
      by_cases c4 : w = 4
      · rw [if_pos c4]
        by_cases c5 : wrc E b q (kr E a) (eVk E a) = 0
        · rw [if_pos c5]; exact cd_wrc h ha p (by omega) bk
        · rw [if_neg c5]; exact cd_wrc h hb q (by omega) ak
      rw [if_neg c4]
      by_cases n1 : nt (kr E a) = 0
      · rw [if_pos n1]
        by_cases n2 : nt (kr E b) = 0
        · rw [if_pos n2]
          have kw := wdr_le ka kb
          refine cd_wrc h hb q (by omega) ?_
          by_cases e8 : eVk E b = 8
          · rw [if_pos e8]; omega
          · rw [if_neg e8]; omega
        · rw [if_neg n2]; exact cd_nt _
      · rw [if_neg n1]; exact cd_nt _
    · rw [if_neg c3]; exact Or.inr (cd_rdc h hb q)
  · rw [if_neg c1]; exact Or.inr (cd_rdc h ha p)
theorem ftas {c : Int32} (h : CDp c) : F_X5_foretoldAs c = some (if c = 1 then 5 else if c = 0 then 6 else -4 - c) := by
  unfold F_X5_foretoldAs
  rcases h with h | ⟨k, hk, h⟩
  · rw [h, if_pos rfl, if_neg (by decide), if_pos rfl]
  · rw [h, if_neg (cd_t k hk).1, if_neg (cd1 k hk), if_neg (cd_t k hk).1]
theorem cdn {c : Int32} (h : CDp c) (hz : ¬ c = 0) : (-4 : Int32) - c = if c = 1 then 5 else if c = 0 then 6 else -4 - c := by
  rcases h with h | ⟨k, hk, h⟩
  · exact absurd h hz
  · rw [h, if_neg (cd1 k hk), if_neg (cd_t k hk).1]
theorem foretell_c (h : EV nb nv vb E hi) {w a p b q : Nat} (hw : w ≤ 4) (ha : a < nv) (hp : p ≤ 100) (hb : b < nv) (hq : q ≤ 100) : F_X5_foretell (nI w) (nI a) (nI p) (nI b) (nI q) hi hl r = some (nI (fno (fcd E w a (p : Int) b (q : Int))), hi, hl, r) := by
  obtain ⟨n8, n6, -, -, -, -, -, a12, -, ak8⟩ := ev_v h ha
  obtain ⟨-, -, -, -, -, -, -, b12, -, bk8⟩ := ev_v h hb
  have w0' : (nI w = (0 : Int32)) = (w = 0) := nI_eq' (b := 0) (by omega) (by decide)
  have w4 : (nI w = (4 : Int32)) = (w = 4) := nI_eq' (b := 4) (by omega) (by decide)
  rw [(fno_cd (fcd_cd (w := w) h (p : Int) (q : Int) ha hb)).2]
  unfold F_X5_foretell fcd
  rw [readRef_c h ha hp, xbI_some]
  by_cases c1 : rdc E a (p : Int) = 0
  rotate_left
  · rw [if_neg c1, if_neg c1, ← cdn (cd_rdc h ha (p : Int)) c1]
  rw [if_pos c1, if_pos c1, readsAny_c h ha (rdc_bk h ha c1), xbI_some]
  by_cases k1 : 8 ≤ eBk E (eBo E a)
  · rw [if_pos k1, if_pos k1, if_neg (by decide)]; rfl
  rw [if_neg k1, if_neg k1, if_pos rfl]
  have ka := krk_le (kl E a) (eBk E (eBo E a)) (by omega)
  change kr E a ≤ 7 at ka
  simp only [w0', w4]
  by_cases c2 : w = 0
  · rw [if_pos c2, if_pos c2, kindRead_c h ha, xbI_some, if_pos (xok_t (by omega) (by decide)), cl_nI (by omega), a12, writeRef_c h hb hq (by omega) ak8, xbI_some, ftas (cd_wrc h hb (q : Int) (by omega) ak8), xbP_some]
  rw [if_neg c2, if_neg c2, readRef_c h hb hq, xbI_some]
  by_cases c3 : rdc E b (q : Int) = 0
  rotate_left
  · rw [if_neg c3, if_neg c3, ← cdn (cd_rdc h hb (q : Int)) c3]
  rw [if_pos c3, if_pos c3, readsAny_c h hb (rdc_bk h hb c3), xbI_some]
  by_cases k2 : 8 ≤ eBk E (eBo E b)
  · rw [if_pos k2, if_pos k2, if_neg (by decide)]; rfl
  rw [if_neg k2, if_neg k2, if_pos rfl]
  have kb := krk_le (kl E b) (eBk E (eBo E b)) (by omega)
  change kr E b ≤ 7 at kb
  by_cases c4 : w = 4
  · rw [if_pos c4, if_pos c4, kindRead_c h ha, xbI_some, kindRead_c h hb, xbI_some, swapRef_c h ha hp hb hq (by omega) (by omega), xbI_some, ftas, xbP_some]
    by_cases c5 : wrc E b (q : Int) (kr E a) (eVk E a) = 0
    · rw [if_pos c5]; exact cd_wrc h ha (p : Int) (by omega) bk8
    · rw [if_neg c5]; exact cd_wrc h hb (q : Int) (by omega) ak8
  rw [if_neg c4, if_neg c4]
  have m7 : ¬ (-7 : Int32) = 0 := by decide +kernel
  have c7 : CDp (-7) := Or.inr ⟨3, by decide, by decide +kernel⟩
  unfold F_X5_reckonRefusal
  rw [kindRead_c h ha, xbI_some, kindRead_c h hb, xbI_some, noTerm_c _ (by omega), xbP_some, noTerm_c _ (by omega), xbP_some]
  by_cases n1 : nt (kr E a) = 0
  rotate_left
  · have e7 : nt (kr E a) = -7 := by
      rcases nt_t (kr E a) (by omega) with q | q
      · exact absurd q n1
      · exact q
    rw [if_neg n1, if_neg n1, xbI_some, ftas c7, xbP_some, e7]
  rw [if_pos n1, if_pos n1]
  by_cases n2 : nt (kr E b) = 0
  rotate_left
  · have e7 : nt (kr E b) = -7 := by
      rcases nt_t (kr E b) (by omega) with q | q
      · exact absurd q n2
      · exact q
    rw [if_neg n2, if_neg n2, xbI_some, ftas c7, xbP_some, e7]
  rw [if_pos n2, if_pos n2, wider_c _ (by omega) _ (by omega), xbP_some]
  have kw := wdr_le ka kb
  generalize wdr (kr E a) (kr E b) = k at kw
  have e8 : (nI (eVk E b) = (8 : Int32)) = (eVk E b = 8) := nI_eq' (b := 8) (by omega) (by decide)
  have hy : (if eVk E b = 8 then 8 else k) ≤ 8 := by
    by_cases c : eVk E b = 8
    · rw [if_pos c]; omega
    · rw [if_neg c]; omega
  have by' : F_X5_byOfResult (nI b) (nI k) hi hl r = some (nI (if eVk E b = 8 then 8 else k), hi, hl, r) := by
    unfold F_X5_byOfResult
    rw [if_pos (xok_t (by omega) (by decide)), cl_nI (by omega), b12]
    simp only [e8]
    by_cases c : eVk E b = 8
    · rw [if_pos c, if_pos c]; rfl
    · rw [if_neg c, if_neg c]
  rw [by', xbI_some, writeRef_c h hb hq (by omega) hy, xbI_some, xbI_some, ftas (cd_wrc h hb (q : Int) (by omega) hy), xbP_some]
end FORE
