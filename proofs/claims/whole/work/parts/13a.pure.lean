/-! reading and writing as functions of kinds and places -/
def tk1 (g b : Nat) : Int32 := (F_X3_taken (nI g) (nI b)).getD 0
def hd1 (t y k : Nat) : Int32 := (F_X3_handed (nI t) (nI y) (nI k)).getD 0
def widb (a b : Nat) : Bool := decide (F_X12_widens (nI a) (nI b) = some 1)
theorem taken_c : ∀ g, g < 13 → ∀ b, b < 9 → F_X3_taken (nI g) (nI b) = some (tk1 g b) := by decide +kernel
theorem handed_c : ∀ t, t < 11 → ∀ y, y < 9 → ∀ k, k < 13 → F_X3_handed (nI t) (nI y) (nI k) = some (hd1 t y k) := by decide +kernel
theorem widens_m : ∀ a, a < 11 → ∀ b, b < 11 → F_X12_widens (nI a) (nI b) = some (if widb a b then 1 else 0) := by decide +kernel
theorem tk1_8 : ∀ g, g < 11 → tk1 g 8 = 0 := by decide +kernel
theorem tk1_11 : ∀ b, b < 9 → tk1 11 b = -5 := by decide +kernel
theorem tk1_12 : ∀ b, b < 9 → tk1 12 b = -6 := by decide +kernel
theorem tk1_w : ∀ g, g < 11 → ∀ b, b < 8 → tk1 g b = if widb g b then 0 else -7 := by decide +kernel
theorem hd1_8 : ∀ t, t < 11 → ∀ y, y < 9 → hd1 t y 8 = if y = 8 then 0 else -7 := by decide +kernel
theorem hd1_9 : ∀ t, t < 11 → ∀ y, y < 9 → hd1 t y 9 = if y = 8 ∧ (t = 9 ∨ t = 10) then 0 else -7 := by decide +kernel
theorem hd1_10 : ∀ t, t < 11 → ∀ y, y < 9 → hd1 t y 10 = if y = 8 ∧ (t = 4 ∨ t = 10) then 0 else -7 := by decide +kernel
theorem hd1_11 : ∀ t, t < 11 → ∀ y, y < 9 → hd1 t y 11 = -5 := by decide +kernel
theorem hd1_12 : ∀ t, t < 11 → ∀ y, y < 9 → hd1 t y 12 = -6 := by decide +kernel
theorem hd1_any : ∀ t, t < 11 → ∀ k, k < 8 → hd1 t 8 k = if t = 10 then -9 else if widb t k then 0 else -7 := by decide +kernel
theorem hd1_own : ∀ y, y < 8 → ∀ k, k < 8 → hd1 y y k = if widb y k then 0 else -7 := by decide +kernel
/-- what refuses to be taken up through kinds, the lowest first; c: the cell is there -/
def tku : Nat → Bool → List Nat → Int32
  | _, _, [] => 0
  | g, c, b :: t => if tk1 g b = 0 then (if c = true then tku b c t else -8) else tk1 g b
/-- what refuses a thing handed down through kinds -/
def hdn : Nat → Nat → List Nat → Int32
  | _, _, [] => 0
  | th, y, k :: t => if hd1 th y k = 0 then hdn (if k ≤ 7 then k else th) k t else hd1 th y k
/-- what a thing becomes on its way -/
def ent (b : Nat) (x : Nat × Int64) : Nat × Int64 := if b ≤ 7 then (b, rnd b x.2) else x
def cup : List Nat → Nat × Int64 → Nat × Int64
  | [], x => x
  | b :: t, x => cup t (ent b x)
theorem cup_app (L M : List Nat) (x : Nat × Int64) : cup (L ++ M) x = cup M (cup L x) := by
  induction L generalizing x with
  | nil => rfl
  | cons b t ih => exact ih _
theorem tku_f (g : Nat) (L : List Nat) (hL : L ≠ []) : tku g false L ≠ 0 := by
  cases L with
  | nil => exact absurd rfl hL
  | cons b t =>
    simp only [tku]
    by_cases c : tk1 g b = 0
    · rw [if_pos c, if_neg (by decide)]
      decide +kernel
    · rw [if_neg c]
      exact c
/-- things as they may be -/
def okt (x : Nat × Int64) : Prop := (x.1 ≤ 7 ∨ x.1 = 9 ∨ x.1 = 10) ∧ (x.1 = 10 → x.2 = 0) ∧ rnd x.1 x.2 = x.2
theorem okt_ent {x : Nat × Int64} (h : okt x) (b : Nat) : okt (ent b x) := by
  unfold ent
  by_cases c : b ≤ 7
  · rw [if_pos c]
    exact ⟨Or.inl c, fun e => absurd e (by omega), rnd_idem _ _⟩
  · rw [if_neg c]
    exact h
theorem okt_cup {x : Nat × Int64} (h : okt x) (L : List Nat) : okt (cup L x) := by
  induction L generalizing x with
  | nil => exact h
  | cons b t ih => exact ih (okt_ent h b)
theorem cup_le (L : List Nat) (x : Nat × Int64) (h : x.1 ≤ 10) : (cup L x).1 ≤ 10 := by
  induction L generalizing x with
  | nil => exact h
  | cons b t ih =>
    refine ih _ ?_
    unfold ent
    by_cases c : b ≤ 7
    · rw [if_pos c]
      show b ≤ 10
      omega
    · rw [if_neg c]
      exact h
/-! the banks and views: kinds, sizes; froms, steps, counts, kinds, chains, banks -/
abbrev yE : Type := (Nat → Nat) × (Nat → Nat) × (Nat → Int) × (Nat → Int) × (Nat → Nat) × (Nat → Nat) × (Nat → List Nat) × (Nat → Nat)
abbrev eBk (E : yE) : Nat → Nat := E.1
abbrev eBz (E : yE) : Nat → Nat := E.2.1
abbrev eVf (E : yE) : Nat → Int := E.2.2.1
abbrev eVs (E : yE) : Nat → Int := E.2.2.2.1
abbrev eVc (E : yE) : Nat → Nat := E.2.2.2.2.1
abbrev eVk (E : yE) : Nat → Nat := E.2.2.2.2.2.1
abbrev eCh (E : yE) : Nat → List Nat := E.2.2.2.2.2.2.1
abbrev eBo (E : yE) : Nat → Nat := E.2.2.2.2.2.2.2
def BS (nb : Nat) (bk bz : Nat → Nat) (hi : Nat → Nat → Int32) : Prop := nb ≤ 6 ∧ hi 1 4 = nI nb ∧ hi 90 1 = nI nb ∧
  (∀ b, b < nb → bk b ≤ 12 ∧ bz b ≤ 12 ∧ (11 ≤ bk b → bz b = 0) ∧ hi 2 b = nI (bk b) ∧ hi 91 b = nI (bk b) ∧ hi 5 b = nI (bz b) ∧ hi 92 b = nI (bz b))
def EV (nb nv : Nat) (vb : Nat → Nat) (E : yE) (hi : Nat → Nat → Int32) : Prop := BS nb (eBk E) (eBz E) hi ∧ IV nb nv vb (eVf E) (eVs E) (eVc E) (eVk E) (eCh E) (eBo E) hi
/-- the class's cells, the reference's -/
def CC (nb : Nat) (ck : Nat → Nat) (cn : Nat → Int64) (hi : Nat → Nat → Int32) (hl : Nat → Nat → Int64) : Prop := ∀ k, k < 12 * nb → hi 3 k = nI (ck k) ∧ hl 4 k = cn k
def MC (nb : Nat) (ck : Nat → Nat) (cn : Nat → Int64) (hi : Nat → Nat → Int32) (hl : Nat → Nat → Int64) : Prop := ∀ k, k < 12 * nb → hi 93 k = nI (ck k) ∧ hl 94 k = cn k
def OKC (nb : Nat) (bk : Nat → Nat) (ck : Nat → Nat) (cn : Nat → Int64) : Prop := ∀ k, k < 12 * nb → okc (bk (k / 12)) (ck k) (cn k)
theorem IB_iff {nb : Nat} {bk bz ck : Nat → Nat} {cn : Nat → Int64} {hi : Nat → Nat → Int32} {hl : Nat → Nat → Int64} : IB nb bk bz ck cn hi hl ↔ (BS nb bk bz hi ∧ CC nb ck cn hi hl ∧ MC nb ck cn hi hl ∧ OKC nb bk ck cn) := by
  constructor
  · rintro ⟨h1, h2, h3, h4, h5⟩
    exact ⟨⟨h1, h2, h3, h4⟩, fun k hk => ⟨(h5 k hk).1, (h5 k hk).2.2.1⟩, fun k hk => ⟨(h5 k hk).2.1, (h5 k hk).2.2.2.1⟩, fun k hk => (h5 k hk).2.2.2.2⟩
  · rintro ⟨⟨h1, h2, h3, h4⟩, h5, h6, h7⟩
    exact ⟨h1, h2, h3, h4, fun k hk => ⟨(h5 k hk).1, (h6 k hk).1, (h5 k hk).2, (h6 k hk).2, h7 k hk⟩⟩
def xEr : List Nat := [1, 2, 5, 91, 92, 6, 7, 8, 9, 10, 11, 12, 13, 95, 96, 97, 98, 99, 100]
theorem EV.fr {nb nv : Nat} {vb : Nat → Nat} {E : yE} {hi hi' : Nat → Nat → Int32} (h : EV nb nv vb E hi) (hr : ∀ a, a ∈ xEr → hi' a = hi a) (h1 : hi' 90 1 = hi 90 1) (h6 : hi' 90 6 = hi 90 6) : EV nb nv vb E hi' := by
  refine ⟨?_, h.2.tr (fun a ha => hr a ?_) h6⟩
  · have h0 := h.1
    unfold BS at h0 ⊢
    rw [hr 1 (by decide), hr 2 (by decide), hr 5 (by decide), hr 91 (by decide), hr 92 (by decide), h1]
    exact h0
  · simp only [xEr, List.mem_cons, List.not_mem_nil, or_false] at ha ⊢
    omega
theorem EV.u {nb nv : Nat} {vb : Nat → Nat} {E : yE} {hi : Nat → Nat → Int32} (h : EV nb nv vb E hi) {a : Nat} (j : Nat) (v : Int32) (ha : a ∉ xEr) (h9 : a ≠ 90 ∨ (j ≠ 1 ∧ j ≠ 6)) : EV nb nv vb E (xu hi a j v) :=
  h.fr (fun x hx => xu_ne _ _ _ (fun e => ha (e ▸ hx))) (xu_ne2 _ _ (by omega)) (xu_ne2 _ _ (by omega))
def kl (E : yE) (v : Nat) : List Nat := (eCh E v).map (eVk E)
def dl (E : yE) (v : Nat) : List Nat := (kl E v).reverse ++ [eBk E (eBo E v)]
def pl (E : yE) (v : Nat) (p : Int) : Option Int := plc (eVf E) (eVs E) (eVc E) (eCh E v).reverse p
def inb (E : yE) (v : Nat) (x : Int) : Bool := decide (0 ≤ x ∧ x < (eBz E (eBo E v) : Int))
def cix (E : yE) (v : Nat) (p : Int) : Nat := match pl E v p with
  | none => 0
  | some x => 12 * eBo E v + x.toNat
def rdc (E : yE) (v : Nat) (p : Int) : Int32 := match pl E v p with
  | none => -4
  | some x => tku (eBk E (eBo E v)) (inb E v x) (kl E v)
def wrc (E : yE) (v : Nat) (p : Int) (th y : Nat) : Int32 := match pl E v p with
  | none => -4
  | some x => if hdn th y (dl E v) = 0 then (if inb E v x = true then 0 else -8) else hdn th y (dl E v)
theorem rdc_n {E : yE} {v : Nat} {p : Int} (e : pl E v p = none) : rdc E v p = -4 := by unfold rdc; rw [e]
theorem rdc_s {E : yE} {v : Nat} {p x : Int} (e : pl E v p = some x) : rdc E v p = tku (eBk E (eBo E v)) (inb E v x) (kl E v) := by unfold rdc; rw [e]
theorem wrc_n {E : yE} {v : Nat} {p : Int} {th y : Nat} (e : pl E v p = none) : wrc E v p th y = -4 := by unfold wrc; rw [e]
theorem wrc_s {E : yE} {v : Nat} {p x : Int} {th y : Nat} (e : pl E v p = some x) : wrc E v p th y = if hdn th y (dl E v) = 0 then (if inb E v x = true then 0 else -8) else hdn th y (dl E v) := by unfold wrc; rw [e]
theorem cix_s {E : yE} {v : Nat} {p x : Int} (e : pl E v p = some x) : cix E v p = 12 * eBo E v + x.toNat := by unfold cix; rw [e]
/-- a list of kinds with another one on top -/
def tlp (E : yE) (v top : Nat) : List Nat := (eCh E v).dropLast.map (eVk E) ++ [top]
section PIC
variable {hi : Nat → Nat → Int32} {hl : Nat → Nat → Int64} {r : xRr} {nb nv : Nat} {vb : Nat → Nat} {E : yE}
theorem ch_last (h : EV nb nv vb E hi) {v : Nat} (hv : v < nv) : eCh E v = (eCh E v).dropLast ++ [v] := by
  rcases (h.2.2.2.2 v hv).2.2.2.2 with ⟨-, e, -⟩ | ⟨u, -, -, e, -⟩
  · rw [e]; rfl
  · rw [e]; simp
theorem ch_pos (h : EV nb nv vb E hi) {v : Nat} (hv : v < nv) : 0 < (eCh E v).length := by
  rw [ch_last h hv]; simp
theorem kl_ne (h : EV nb nv vb E hi) {v : Nat} (hv : v < nv) : kl E v ≠ [] := by
  unfold kl
  intro e
  have := ch_pos h hv
  rw [List.map_eq_nil_iff] at e
  rw [e] at this
  exact absurd this (by simp)
theorem tlp_own (h : EV nb nv vb E hi) {v : Nat} (hv : v < nv) : tlp E v (eVk E v) = kl E v := by
  unfold tlp kl
  conv => rhs; rw [ch_last h hv]
  simp
theorem tlp_len (h : EV nb nv vb E hi) {v : Nat} (hv : v < nv) (top : Nat) : (tlp E v top).length = (eCh E v).length := by
  have := ch_pos h hv
  unfold tlp
  simp
  omega
theorem tlp_at (h : EV nb nv vb E hi) {v : Nat} (hv : v < nv) (top : Nat) {i : Nat} (hi9 : i < (eCh E v).length) {u : Nat} (hu : (eCh E v)[i]? = some u) : (tlp E v top).drop i = (if i = (eCh E v).length - 1 then top else eVk E u) :: (tlp E v top).drop (i + 1) := by
  have hl' : i < ((eCh E v).dropLast.map (eVk E) ++ [top]).length := by
    have := tlp_len h hv top
    unfold tlp at this
    rw [this]; exact hi9
  unfold tlp
  rw [List.drop_eq_getElem_cons hl']
  congr 1
  by_cases c : i = (eCh E v).length - 1
  · rw [if_pos c, List.getElem_append_right (by simp; omega)]
    simp
  · rw [if_neg c, List.getElem_append_left (by simp; omega), List.getElem_map, List.getElem_dropLast]
    rw [List.getElem?_eq_getElem hi9] at hu
    rw [Option.some.inj hu]
theorem ch_u (h : EV nb nv vb E hi) {v : Nat} (hv : v < nv) {i : Nat} (hi9 : i < (eCh E v).length) : ∃ u, (eCh E v)[i]? = some u ∧ u ≤ v ∧ u < nv ∧ eVk E u ≤ 8 ∧ hi 10 (4 * v + i) = nI u ∧ hi 12 u = nI (eVk E u) ∧ hi 99 u = nI (eVk E u) := by
  refine ⟨(eCh E v)[i], List.getElem?_eq_getElem hi9, ?_⟩
  have hu : (eCh E v)[i]? = some (eCh E v)[i] := List.getElem?_eq_getElem hi9
  have hu1 := ch_le h.2 v hv _ (List.mem_of_getElem? hu)
  obtain ⟨g1, g2, -⟩ := h.2.2.2.2 (eCh E v)[i] (by omega)
  exact ⟨hu1, by omega, g1.2.1, (h.2.2.2.2 v hv).2.2.2.1 i _ hu, g2.2.2.2.2.2.2.1, g2.2.2.2.2.2.2.2⟩
theorem ev_v (h : EV nb nv vb E hi) {v : Nat} (hv : v < nv) : nv ≤ 8 ∧ nb ≤ 6 ∧ (eCh E v).length ≤ 4 ∧ eBo E v < nb ∧ hi 9 v = nI (eCh E v).length ∧ hi 100 v = nI (eCh E v).length ∧ hi 13 v = nI (eBo E v) ∧ hi 12 v = nI (eVk E v) ∧ hi 99 v = nI (eVk E v) ∧ eVk E v ≤ 8 := by
  obtain ⟨g1, g2, g3, -, -⟩ := h.2.2.2.2 v hv
  exact ⟨h.2.1, h.1.1, g1.2.2.2.2.1, g1.2.2.2.2.2, g3.1, g3.2.1, g3.2.2.1, g2.2.2.2.2.2.2.1, g2.2.2.2.2.2.2.2, g1.2.1⟩
theorem ev_b (h : EV nb nv vb E hi) {v : Nat} (hv : v < nv) : eBk E (eBo E v) ≤ 12 ∧ eBz E (eBo E v) ≤ 12 ∧ (11 ≤ eBk E (eBo E v) → eBz E (eBo E v) = 0) ∧ hi 2 (eBo E v) = nI (eBk E (eBo E v)) ∧ hi 91 (eBo E v) = nI (eBk E (eBo E v)) ∧ hi 5 (eBo E v) = nI (eBz E (eBo E v)) ∧ hi 92 (eBo E v) = nI (eBz E (eBo E v)) := h.1.2.2.2 _ (ev_v h hv).2.2.2.1
theorem takenUp_l (h : EV nb nv vb E hi) {v : Nat} (hv : v < nv) {top : Nat} (ht : top ≤ 8) (c : Bool) : ∀ k n i g, i + k = (eCh E v).length → k < n → g ≤ 12 → F_X8_takenUp_19 n (nI v) (nI top) (if c = true then 1 else 0) (nI g) (nI i) hi hl r = some (tku g c ((tlp E v top).drop i), hi, hl, r) := by
  obtain ⟨n8, -, hl4, hbo, e9, -, -, -, -, -⟩ := ev_v h hv
  intro k
  induction k with
  | zero =>
    intro n i g hik hn hg
    obtain ⟨n, rfl⟩ : ∃ q, n = q + 1 := ⟨n - 1, by omega⟩
    unfold F_X8_takenUp_19
    rw [if_pos (xok_t (by omega) (by decide)), cl_nI (by omega), e9, if_pos ((nI_leI (by omega) (by omega)).mpr (by omega)), List.drop_eq_nil_of_le (by rw [tlp_len h hv]; omega)]
    rfl
  | succ k ih =>
    intro n i g hik hn hg
    obtain ⟨n, rfl⟩ : ∃ q, n = q + 1 := ⟨n - 1, by omega⟩
    obtain ⟨u, hu, hu1, hu2, hu3, e10, e12, -⟩ := ch_u h hv (i := i) (by omega)
    have tail : ∀ b, b ≤ 8 → (tlp E v top).drop i = b :: (tlp E v top).drop (i + 1) → F_X8_takenUp_63 (F_X8_takenUp_19 n) (nI v) (nI top) (if c = true then 1 else 0) (nI g) (nI i) (nI b) hi hl r = some (tku g c ((tlp E v top).drop i), hi, hl, r) := by
      intro b hb e
      unfold F_X8_takenUp_63
      rw [taken_c g (by omega) b (by omega), xbP_some, e]
      simp only [tku]
      by_cases c1 : tk1 g b = 0
      · rw [if_pos c1, if_pos c1]
        cases c with
        | false => rw [if_pos (by decide), if_neg (by decide)]
        | true =>
          rw [if_neg (by decide), if_pos rfl, show nI i + 1 = nI (i + 1) from nI_1 i]
          exact ih n (i + 1) b (by omega) (by omega) (by omega)
      · rw [if_neg c1, if_neg c1]
    have et := tlp_at h hv top (i := i) (by omega) hu
    have g1 : ¬ nI (eCh E v).length ≤ nI i := by rw [nI_leI (by omega) (by omega)]; omega
    obtain ⟨m, hm⟩ : ∃ m, (eCh E v).length = m + 1 := ⟨(eCh E v).length - 1, by omega⟩
    have e1 : nI (eCh E v).length - 1 = nI m := by rw [hm]; exact nI_s1 (by omega)
    have e2 : (nI i = nI m) = (i = m) := nI_eq' (by omega) (by omega)
    unfold F_X8_takenUp_19
    rw [if_pos (xok_t (by omega) (by decide)), cl_nI (by omega), e9, if_neg g1, e1]
    simp only [e2]
    by_cases c2 : i = m
    · rw [if_pos c2]
      rw [if_pos (by omega)] at et
      exact tail top ht et
    · rw [if_neg c2, nI_4, nI_add, Nat.mul_comm v 4, if_pos (xok_t (by omega) (by decide)), cl_nI (by omega), e10, if_pos (xok_t (by omega) (by decide)), cl_nI (by omega), e12]
      rw [if_neg (by omega)] at et
      exact tail _ hu3 et
theorem takenUp_c (h : EV nb nv vb E hi) {v : Nat} (hv : v < nv) {top : Nat} (ht : top ≤ 8) (c : Bool) : F_X8_takenUp (nI v) (nI top) (if c = true then 1 else 0) hi hl r = some (tku (eBk E (eBo E v)) c (tlp E v top), hi, hl, r) := by
  obtain ⟨n8, n6, hl4, hbo, e9, -, e13, -, -, -⟩ := ev_v h hv
  obtain ⟨b1, b2, b3, b4, b5, b6, b7⟩ := ev_b h hv
  have k := takenUp_l (hl := hl) (r := r) h hv ht c (eCh E v).length 1000000 0 (eBk E (eBo E v)) (by omega) (by omega) (by omega)
  unfold F_X8_takenUp
  rw [if_pos (xok_t (by omega) (by decide)), cl_nI (by omega), e13, if_pos (xok_t (by omega) (by decide)), cl_nI (by omega), b4]
  exact k
theorem handed_l (h : EV nb nv vb E hi) {v : Nat} (hv : v < nv) : ∀ k n th y, k ≤ (eCh E v).length → k < n → th ≤ 10 → y ≤ 8 → F_X8_handedDown_16 n (nI v) (nI th) (nI y) (nI k - 1) hi hl r = some (hdn th y (((eCh E v).take k).reverse.map (eVk E) ++ [eBk E (eBo E v)]), hi, hl, r) := by
  obtain ⟨n8, n6, hl4, hbo, e9, -, e13, -, -, -⟩ := ev_v h hv
  obtain ⟨b1, b2, b3, b4, b5, b6, b7⟩ := ev_b h hv
  intro k
  induction k with
  | zero =>
    intro n th y hk hn hth hy
    obtain ⟨n, rfl⟩ : ∃ q, n = q + 1 := ⟨n - 1, by omega⟩
    unfold F_X8_handedDown_16
    rw [if_pos (by decide), if_pos (xok_t (by omega) (by decide)), cl_nI (by omega), e13, if_pos (xok_t (by omega) (by decide)), cl_nI (by omega), b4, handed_c th (by omega) y (by omega) _ (by omega), xbP_some]
    simp only [List.take_zero, List.reverse_nil, List.map_nil, List.nil_append, hdn]
    by_cases c : hd1 th y (eBk E (eBo E v)) = 0
    · rw [if_pos c, c]
    · rw [if_neg c]
  | succ k ih =>
    intro n th y hk hn hth hy
    obtain ⟨n, rfl⟩ : ∃ q, n = q + 1 := ⟨n - 1, by omega⟩
    obtain ⟨u, hu, hu1, hu2, hu3, e10, e12, -⟩ := ch_u h hv (i := k) (by omega)
    have et : ((eCh E v).take (k + 1)).reverse = u :: ((eCh E v).take k).reverse := by
      rw [List.take_succ, hu]
      simp
    have e7 : ((7 : Int32) < nI (eVk E u)) = (7 < eVk E u) := nI_lt' (a := 7) (by decide) (by omega)
    unfold F_X8_handedDown_16 F_X8_handedDown_72
    rw [nI_s1 (by omega), if_neg (nI_pos (by omega)), nI_4, nI_add, Nat.mul_comm v 4, if_pos (xok_t (by omega) (by decide)), cl_nI (by omega), e10, if_pos (xok_t (by omega) (by decide)), cl_nI (by omega), e12, handed_c th (by omega) y (by omega) _ (by omega), xbP_some, et, show nI k + (-1 : Int32) = nI k - 1 from (Int32.sub_eq_add_neg _ _).symm]
    simp only [List.map_cons, List.cons_append, hdn, e7]
    by_cases c : hd1 th y (eVk E u) = 0
    · rw [if_pos c, if_pos c]
      by_cases c7 : 7 < eVk E u
      · rw [if_pos c7, if_neg (by omega), ih n th (eVk E u) (by omega) (by omega) hth hu3]
      · rw [if_neg c7, if_pos (by omega), ih n (eVk E u) (eVk E u) (by omega) (by omega) (by omega) hu3]
    · rw [if_neg c, if_neg c]
theorem handed_d (h : EV nb nv vb E hi) {v : Nat} (hv : v < nv) {th y : Nat} (hth : th ≤ 10) (hy : y ≤ 8) : F_X8_handedDown (nI v) (nI th) (nI y) hi hl r = some (hdn th y (dl E v), hi, hl, r) := by
  obtain ⟨n8, n6, hl4, hbo, e9, -, e13, -, -, -⟩ := ev_v h hv
  have k := handed_l (hl := hl) (r := r) h hv (eCh E v).length 1000000 th y (Nat.le_refl _) (by omega) hth hy
  rw [List.take_length] at k
  unfold F_X8_handedDown
  rw [if_pos (xok_t (by omega) (by decide)), cl_nI (by omega), e9, k]
  unfold dl kl
  rw [List.map_reverse]
end PIC
