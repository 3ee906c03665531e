/-! the reference reads and writes -/
section REF
variable {hi : Nat → Nat → Int32} {hl : Nat → Nat → Int64} {r : xRr} {nb nv : Nat} {vb : Nat → Nat} {E : yE}
theorem ch_lt (h : EV nb nv vb E hi) {v : Nat} (hv : v < nv) {i u : Nat} (hi9 : i + 1 < (eCh E v).length) (hu : (eCh E v)[i]? = some u) : u < v := by
  rcases (h.2.2.2.2 v hv).2.2.2.2 with ⟨-, e, -⟩ | ⟨w, hw, -, e, -⟩
  · rw [e] at hi9
    simp at hi9
  · rw [e] at hu hi9
    rw [List.getElem?_append_left (by simp at hi9; exact hi9)] at hu
    have := ch_le h.2 w (by omega) u (List.mem_of_getElem? hu)
    omega
theorem ch_top (h : EV nb nv vb E hi) {v : Nat} (hv : v < nv) {i u : Nat} (hi9 : i + 1 = (eCh E v).length) (hu : (eCh E v)[i]? = some u) : u = v := by
  have e := ch_last h hv
  have hl' : (eCh E v).dropLast.length = i := by rw [List.length_dropLast]; omega
  rw [e, List.getElem?_append_right (by omega), hl'] at hu
  simp at hu
  exact hu.symm
theorem under_m (h : EV nb nv vb E hi) : ∀ v, v < nv → ∀ n k u, v < n → k < (eCh E v).length → (eCh E v)[k]? = some u → F_X12_under_2 n (nI k) (nI v) hi hl r = some (nI u, hi, hl, r) := by
  intro v
  induction v using Nat.strongRecOn with
  | _ v ih =>
    intro hv n k u hn hk hu
    obtain ⟨n, rfl⟩ : ∃ q, n = q + 1 := ⟨n - 1, by omega⟩
    obtain ⟨n8, n6, hl4, hbo, e9, e100, -⟩ := ev_v h hv
    have e95 := (h.2.2.2.2 v hv).2.2.1.2.2.2
    have el : (nI (eCh E v).length ≤ nI (k + 1)) = ((eCh E v).length ≤ k + 1) := nI_le' (by omega) (by omega)
    unfold F_X12_under_2
    rw [if_pos (xok_t (by omega) (by decide)), cl_nI (by omega), e100, show nI k + 1 = nI (k + 1) from nI_1 k]
    simp only [el]
    by_cases c : (eCh E v).length ≤ k + 1
    · rw [if_pos c, ch_top h hv (by omega) hu]
    · rw [if_neg c]
      rcases (h.2.2.2.2 v hv).2.2.2.2 with ⟨-, e, -⟩ | ⟨w, hw, ew, e, -⟩
      · rw [e] at c
        simp at c
      · have es : nI (vb v) - 10 = nI w := by
          rw [ew, Nat.add_comm, ← nI_add]
          show nI w + nI 10 - 10 = nI w
          rw [show nI 10 = (10 : Int32) from rfl]
          simp
        rw [e, List.length_append] at c
        simp at c
        rw [e, List.getElem?_append_left (by omega)] at hu
        rw [e95, es]
        exact ih w hw (by omega) n k u (by omega) (by omega) hu
theorem taken_m {g b : Nat} (hg : g ≤ 10) (hb : b ≤ 8) : ∃ a c, F_X12_taken (nI g) (nI b) hi hl r = some (tk1 g b, xu hi 90 31 a, xu hl 90 32 c, r) ∧ (tk1 g b = 0 → ∀ x : Nat × Int64, hi 90 31 = nI x.1 → hl 90 32 = x.2 → a = nI (ent b x).1 ∧ c = (ent b x).2) := by
  have e8 : (nI b = (8 : Int32)) = (b = 8) := nI_eq' (b := 8) (by omega) (by decide)
  unfold F_X12_taken
  simp only [e8]
  by_cases c : b = 8
  · subst c
    refine ⟨hi 90 31, hl 90 32, ?_, fun _ x e1 e2 => ⟨e1, e2⟩⟩
    rw [if_pos rfl, tk1_8 g (by omega), xu_id _ rfl, xu_id _ rfl]
  · rw [if_neg c, widens_m g (by omega) b (by omega), xbP_some, tk1_w g (by omega) b (by omega)]
    by_cases cw : widb g b = true
    · refine ⟨nI b, rnd b (hl 90 32), ?_, fun _ x e1 e2 => ?_⟩
      · rw [if_pos cw, if_neg (by decide), as_m b (by omega), xbP_some, if_pos cw]
      · unfold ent
        rw [if_pos (by omega), e2]
        exact ⟨rfl, rfl⟩
    · refine ⟨hi 90 31, hl 90 32, ?_, fun q => ?_⟩
      · rw [if_neg cw, if_pos rfl, if_neg cw, xu_id _ rfl, xu_id _ rfl]
      · rw [if_neg cw] at q
        exact absurd q (by decide +kernel)
theorem fetch_x (h : EV nb nv vb E hi) {v k n : Nat} (hv : v < nv) (v2 v3 v4 : Int32) {v5 : Int32} (h5 : v5 ≠ 0) : F_X12_fetch_18 (n + 1) (nI v) v2 v3 v4 v5 (nI k) hi hl r = some (v5, hi, hl, r) := by
  obtain ⟨n8, n6, hl4, hbo, e9, e100, -⟩ := ev_v h hv
  unfold F_X12_fetch_18
  rw [if_pos (xok_t (by omega) (by decide)), cl_nI (by omega), e100]
  by_cases c : nI (eCh E v).length ≤ nI k
  · rw [if_pos c]
  · rw [if_neg c, if_neg h5]
theorem fetch_l {v top : Nat} (hv : v < nv) (ht : top ≤ 8) (at' bk' : Int32) : ∀ j n k g hi hl, EV nb nv vb E hi → 1 ≤ k → k + j = (eCh E v).length → j < n → (k < (eCh E v).length → ∃ w, (eCh E v)[k - 1]? = some w ∧ g = eVk E w) → ∃ a c, F_X12_fetch_18 n (nI v) (nI top) at' bk' 0 (nI k) hi hl r = some (tku g true ((tlp E v top).drop k), xu hi 90 31 a, xu hl 90 32 c, r) ∧ (tku g true ((tlp E v top).drop k) = 0 → ∀ x : Nat × Int64, hi 90 31 = nI x.1 → hl 90 32 = x.2 → a = nI (cup ((tlp E v top).drop k) x).1 ∧ c = (cup ((tlp E v top).drop k) x).2) := by
  intro j
  induction j with
  | zero =>
    intro n k g hi hl h hk1 hk hn hg
    obtain ⟨n, rfl⟩ : ∃ q, n = q + 1 := ⟨n - 1, by omega⟩
    obtain ⟨n8, n6, hl4, hbo, e9, e100, -⟩ := ev_v h hv
    rw [List.drop_eq_nil_of_le (by rw [tlp_len h hv]; omega)]
    refine ⟨hi 90 31, hl 90 32, ?_, fun _ x e1 e2 => ⟨e1, e2⟩⟩
    unfold F_X12_fetch_18
    rw [if_pos (xok_t (by omega) (by decide)), cl_nI (by omega), e100, if_pos ((nI_leI (by omega) (by omega)).mpr (by omega)), xu_id _ rfl, xu_id _ rfl]
    rfl
  | succ j ih =>
    intro n k g hi hl h hk1 hk hn hg
    obtain ⟨n, rfl⟩ : ∃ q, n = q + 1 := ⟨n - 1, by omega⟩
    obtain ⟨m, rfl⟩ : ∃ m, k = m + 1 := ⟨k - 1, by omega⟩
    obtain ⟨n8, n6, hl4, hbo, e9, e100, -⟩ := ev_v h hv
    obtain ⟨w, hw, rfl⟩ := hg (by omega)
    rw [Nat.add_sub_cancel] at hw
    obtain ⟨w', hw', -, hw2, hw3, -, -, ew99⟩ := ch_u h hv (i := m) (by omega)
    rw [hw] at hw'
    obtain rfl := Option.some.inj hw'
    obtain ⟨u, hu, hu1, hu2, hu3, -, -, e99⟩ := ch_u h hv (i := m + 1) (by omega)
    have et := tlp_at h hv top (i := m + 1) (by omega) hu
    generalize eb : (if m + 1 = (eCh E v).length - 1 then top else eVk E u) = b at et
    have hb : b ≤ 8 := by
      rw [← eb]
      by_cases c : m + 1 = (eCh E v).length - 1
      · rw [if_pos c]; exact ht
      · rw [if_neg c]; exact hu3
    have g1 : ¬ nI (eCh E v).length ≤ nI (m + 1) := by rw [nI_leI (by omega) (by omega)]; omega
    have nz : ¬ nI (m + 1) = 0 := by rw [show (0 : Int32) = nI 0 from rfl, nI_eq (by omega) (by decide)]; omega
    have main : F_X12_fetch_60 (F_X12_fetch_18 n) (nI v) (nI top) at' bk' (nI (m + 1)) (nI b) hi hl r = xbI (F_X12_taken (nI (eVk E w)) (nI b) hi hl r) (fun w2 hi2 hl2 r2 => F_X12_fetch_18 n (nI v) (nI top) at' bk' w2 (nI (m + 1 + 1)) hi2 hl2 r2) := by
      unfold F_X12_fetch_60 F_X12_fetch_91 F_X12_fetch_140 F_X12_fetch_182 F_X12_fetch_184
      rw [if_neg nz, nI_s1 (by omega)]
      unfold F_X12_under
      rw [under_m h v hv 1000000 m w (by omega) (by omega) hw, xbI_some, if_pos (xok_t (by omega) (by decide)), cl_nI (by omega), ew99, if_neg nz]
      congr 1
      funext w2 hi2 hl2 r2
      rw [if_neg nz, show nI (m + 1) + 1 = nI (m + 1 + 1) from nI_1 _]
      by_cases c : w2 = 0
      · rw [if_pos c]
      · rw [if_neg c]
    have first : F_X12_fetch_18 (n + 1) (nI v) (nI top) at' bk' 0 (nI (m + 1)) hi hl r = F_X12_fetch_60 (F_X12_fetch_18 n) (nI v) (nI top) at' bk' (nI (m + 1)) (nI b) hi hl r := by
      conv => lhs; unfold F_X12_fetch_18 F_X12_under
      rw [if_pos (xok_t (by omega) (by decide)), cl_nI (by omega), e100, if_neg g1, if_pos rfl, under_m h v hv 1000000 (m + 1) u (by omega) (by omega) hu, xbI_some]
      by_cases c : m + 1 = (eCh E v).length - 1
      · have := ch_top h hv (by omega) hu
        subst this
        rw [if_pos rfl, ← eb, if_pos c]
      · have := ch_lt h hv (by omega) hu
        have ne : ¬ nI u = nI v := by rw [nI_eq (by omega) (by omega)]; omega
        rw [if_neg ne, if_pos (xok_t (by omega) (by decide)), cl_nI (by omega), e99, ← eb, if_neg c]
    obtain ⟨a, c, et1, et2⟩ := taken_m (hi := hi) (hl := hl) (r := r) (g := eVk E w) (b := b) (by omega) hb
    rw [first, main, et1, xbI_some, et]
    simp only [tku, cup]
    have h' : EV nb nv vb E (xu hi 90 31 a) := h.u 31 _ (by decide) (Or.inr (by decide))
    by_cases c0 : tk1 (eVk E w) b = 0
    · obtain ⟨a', c', q1, q2⟩ := ih n (m + 1 + 1) b (xu hi 90 31 a) (xu hl 90 32 c) h' (by omega) (by omega) (by omega) (fun hlt => ⟨u, by rw [Nat.add_sub_cancel]; exact hu, by rw [← eb, if_neg (by omega)]⟩)
      refine ⟨a', c', ?_, fun z x e1 e2 => ?_⟩
      · rw [if_pos c0, if_pos trivial, c0, q1, xu_xu, xu_xu]
      · rw [if_pos c0, if_pos trivial] at z
        obtain ⟨z1, z2⟩ := et2 c0 x e1 e2
        exact q2 z (ent b x) (by rw [xu_at, z1]) (by rw [xu_at, z2])
    · refine ⟨a, c, ?_, fun z => ?_⟩
      · obtain ⟨q, rfl⟩ : ∃ q, n = q + 1 := ⟨n - 1, by omega⟩
        rw [if_neg c0, fetch_x h' hv _ _ _ c0]
      · rw [if_neg c0] at z
        exact absurd z c0
end REF
