theorem xcpG_g {a0 a kd sp dp n N N0 : Nat} (h1 : a < 122) (h2 : a0 < 122) (h3 : xsh a = (kd, N)) (h4 : xsh a0 = (kd, N0)) (hs : sp + n ≤ N0) (hd : dp + n ≤ N) (hN : N ≤ 10000) (hN0 : N0 ≤ 10000) : xcpG a0 a kd (nI sp) (nI dp) (nI n) = true := by
  simp only [xcpG, h1, h2, h3, h4, nnI (show n < 2 ^ 31 by omega), nnI (show sp < 2 ^ 31 by omega), nnI (show dp < 2 ^ 31 by omega), cl_nI (show n < 2 ^ 31 by omega), cl_nI (show sp < 2 ^ 31 by omega), cl_nI (show dp < 2 ^ 31 by omega), Bool.and_eq_true, decide_eq_true_eq]
  simp
  omega
/-- the lines, laid otherwise -/
def lq (L : List Nat) (lp : Nat → Nat) (k : Nat) : Nat := lp (5 * (L.getD (k / 5) 0) + k % 5)
theorem lq_at {L : List Nat} {lp : Nat → Nat} {i x e : Nat} (hx : L[i]? = some x) (he : e < 5) : lq L lp (5 * i + e) = lp (5 * x + e) := by
  unfold lq
  rw [show (5 * i + e) / 5 = i by omega, show (5 * i + e) % 5 = e by omega, List.getD_eq_getElem?_getD, hx]
  rfl
section LIE
variable {hl : Nat → Nat → Int64} {r : xRr} {ln : Nat} {lp : Nat → Nat} {L : List Nat}
theorem lieAs_c (hln : ln ≤ 16) (hLl : L.length = ln) (hLm : ∀ x, x ∈ L → x < ln) : ∀ d n i hi, i + d = ln → d < n → hi 30 2 = nI ln → (∀ j x, L[j]? = some x → hi 40 j = nI x) → (∀ k, k < 5 * ln → hi 31 k = nI (lp k)) → (∀ j x, j < i → L[j]? = some x → ∀ e, e < 5 → hi 32 (5 * j + e) = nI (lp (5 * x + e))) → ∃ hi', F_X4_lieAs_2 n 40 (nI i) hi hl r = some (hi', hl, r) ∧ (∀ a, a ∉ [31, 32] → hi' a = hi a) ∧ (∀ k, k < 5 * ln → hi' 31 k = nI (lq L lp k)) := by
  intro d
  induction d with
  | zero =>
    intro n i hi hid hn e30 e40 e31 e32
    obtain ⟨n, rfl⟩ : ∃ q, n = q + 1 := ⟨n - 1, by omega⟩
    have e : i = ln := by omega
    subst e
    refine ⟨xfill hi 31 0 (5 * i) (hi 32), ?_, fun a ha => ?_, fun k hk => ?_⟩
    · unfold F_X4_lieAs_2
      have cg := xcpG_g (a0 := 32) (a := 31) (kd := 0) (sp := 0) (dp := 0) (n := i * 5) (N := 80) (N0 := 80) (by decide) (by decide) (by decide) (by decide) (by omega) (by omega) (by decide) (by decide)
      rw [show nI 0 = (0 : Int32) from rfl] at cg
      rw [e30, if_pos ((nI_leI (by omega) (by omega)).mpr (Nat.le_refl _)), nI_mul5, if_pos cg, cl0, cl_nI (by omega), xcp_fill, Nat.mul_comm]
    · simp only [List.mem_cons, List.not_mem_nil, or_false, not_or] at ha
      exact xfill_ne _ _ _ _ ha.1
    · rw [xfill_in _ _ _ _ _ (by omega) (by omega)]
      have hk5 : k / 5 < L.length := by omega
      have hx := List.getElem?_eq_getElem hk5
      have ek : k = 5 * (k / 5) + k % 5 := by omega
      have q := e32 (k / 5) _ (by omega) hx (k % 5) (Nat.mod_lt _ (by decide))
      rw [← ek] at q
      rw [q, ← lq_at (lp := lp) hx (Nat.mod_lt k (by decide)), ← ek]
  | succ d ih =>
    intro n i hi hid hn e30 e40 e31 e32
    obtain ⟨n, rfl⟩ : ∃ q, n = q + 1 := ⟨n - 1, by omega⟩
    have g : ¬ nI ln ≤ nI i := by rw [nI_leI (by omega) (by omega)]; omega
    have hi5 : i < L.length := by omega
    have hx := List.getElem?_eq_getElem hi5
    have hxl := hLm _ (List.mem_of_getElem? hx)
    generalize L[i] = x at hx hxl
    have cg := xcpG_g (a0 := 31) (a := 32) (kd := 0) (sp := x * 5) (dp := i * 5) (n := 5) (N := 80) (N0 := 80) (by decide) (by decide) (by decide) (by decide) (by omega) (by omega) (by decide) (by decide)
    rw [show nI 5 = (5 : Int32) from rfl] at cg
    obtain ⟨hi', z1, z2, z3⟩ := ih n (i + 1) (xcp hi 31 32 (x * 5) (i * 5) 5) (by omega) (by omega) (by rw [xcp_ne _ _ _ _ _ (by decide)]; exact e30) (fun j y hy => by rw [xcp_ne _ _ _ _ _ (by decide)]; exact e40 j y hy) (fun k hk => by rw [xcp_ne _ _ _ _ _ (by decide)]; exact e31 k hk) (fun j y hj hy e he => by
      rw [xcp_self]
      simp only [va_cpy]
      by_cases c : j = i
      · subst c
        rw [hx] at hy
        obtain rfl := Option.some.inj hy
        rw [if_pos (by omega), e31 _ (by omega), show x * 5 + (5 * j + e - j * 5) = 5 * x + e by omega]
      · rw [if_neg (by omega)]
        exact e32 j y (by omega) hy e he)
    refine ⟨hi', ?_, fun a ha => by rw [z2 a ha, xcp_ne _ _ _ _ _ (by simp at ha; omega)], z3⟩
    unfold F_X4_lieAs_2
    rw [e30, if_neg g, if_pos (xokA_t (N := 16) (by decide) (by decide) (by omega) (by decide)), cl_nI (by omega), e40 i x hx, nI_mul5, nI_mul5, if_pos cg, cl_nI (by omega), cl_nI (by omega), show Int32.toNatClampNeg 5 = 5 from by decide, show nI i + 1 = nI (i + 1) from nI_1 i, z1]
end LIE
section REOM
variable {hl : Nat → Nat → Int64} {r : xRr} {ln : Nat} {w lp : Nat → Nat}
theorem old_m (hln : ln ≤ 16) {hi : Nat → Nat → Int32} (e22 : hi 90 22 = nI ln) : F_X12_reorders_21 1000000 0 hi hl r = F_X12_reorders_55 1000000 0 0 0 (xfill hi 120 0 (5 * ln) (hi 107)) hl r := by
  have key : ∀ k n i, i + k = 5 * ln → k < n → F_X12_reorders_21 n (nI i) (xfill hi 120 0 i (hi 107)) hl r = F_X12_reorders_55 1000000 0 0 0 (xfill hi 120 0 (5 * ln) (hi 107)) hl r := by
    intro k
    induction k with
    | zero =>
      intro n i hik hn
      obtain ⟨n, rfl⟩ : ∃ q, n = q + 1 := ⟨n - 1, by omega⟩
      have e : i = 5 * ln := by omega
      subst e
      unfold F_X12_reorders_21
      rw [xfill_ne _ _ _ _ (by decide), e22, nI_5mul, if_pos ((nI_leI (by omega) (by omega)).mpr (Nat.le_refl _))]
    | succ k ih =>
      intro n i hik hn
      obtain ⟨n, rfl⟩ : ∃ q, n = q + 1 := ⟨n - 1, by omega⟩
      have g : ¬ nI (5 * ln) ≤ nI i := by rw [nI_leI (by omega) (by omega)]; omega
      have s := xfill_s hi 120 0 i (hi 107) (w := hi 107 i) (by simp)
      rw [Nat.zero_add] at s
      unfold F_X12_reorders_21
      rw [xfill_ne hi _ _ _ (show 90 ≠ 120 by decide), e22, nI_5mul, if_neg g, if_pos (xok_t (by omega) (by decide)), cl_nI (by omega), xfill_ne hi _ _ _ (show 107 ≠ 120 by decide), s, show nI i + 1 = nI (i + 1) from nI_1 i]
      exact ih n (i + 1) (by omega) (by omega)
  have h1 := key (5 * ln) 1000000 0 (by omega) (by omega)
  rw [xfill_0] at h1
  exact h1
theorem move_m {to k : Nat} (hto : to < 16) (hk : k < 16) (K55 : Int32 → Int32 → Int32 → (Nat → Nat → Int32) → (Nat → Nat → Int64) → xRr → Option (Int32 × xSt)) (K66 : Int32 → Int32 → Int32 → Int32 → (Nat → Nat → Int32) → (Nat → Nat → Int64) → xRr → Option (Int32 × xSt)) (mv wv : Int32) (hi : Nat → Nat → Int32) : F_X12_reorders_103 K55 K66 1000000 (nI to) mv wv (nI k) 0 hi hl r = K66 (nI (to + 1)) mv wv (nI (k + 1)) (xfill hi 107 (5 * to) 5 (fun j => hi 120 (5 * k + (j - 5 * to)))) hl r := by
  have key : ∀ d n e, e + d = 5 → d < n → F_X12_reorders_103 K55 K66 n (nI to) mv wv (nI k) (nI e) (xfill hi 107 (5 * to) e (fun j => hi 120 (5 * k + (j - 5 * to)))) hl r = K66 (nI (to + 1)) mv wv (nI (k + 1)) (xfill hi 107 (5 * to) 5 (fun j => hi 120 (5 * k + (j - 5 * to)))) hl r := by
    intro d
    induction d with
    | zero =>
      intro n e hed hn
      obtain ⟨n, rfl⟩ : ∃ q, n = q + 1 := ⟨n - 1, by omega⟩
      have : e = 5 := by omega
      subst this
      unfold F_X12_reorders_103 F_X12_reorders_141
      rw [if_pos (by decide), show nI to + 1 = nI (to + 1) from nI_1 _, show nI k + 1 = nI (k + 1) from nI_1 _]
    | succ d ih =>
      intro n e hed hn
      obtain ⟨n, rfl⟩ : ∃ q, n = q + 1 := ⟨n - 1, by omega⟩
      have g : ¬ (5 : Int32) ≤ nI e := by rw [show (5 : Int32) = nI 5 from rfl, nI_leI (by omega) (by omega)]; omega
      unfold F_X12_reorders_103
      rw [if_neg g, nI_5mul, nI_5mul, nI_add, nI_add, if_pos (xok_t (by omega) (by decide)), if_pos (xok_t (by omega) (by decide)), cl_nI (by omega), cl_nI (by omega), xfill_ne hi _ _ _ (show 120 ≠ 107 by decide), xfill_s _ _ _ _ _ (by simp), show nI e + 1 = nI (e + 1) from nI_1 e]
      exact ih n (e + 1) (by omega) (by omega)
  have h1 := key 5 1000000 0 (by omega) (by omega)
  rw [xfill_0] at h1
  exact h1
theorem reo_in (hln : ln ≤ 16) {wv : Nat} (hwv : wv < 16) (hw : ∀ i, i < ln → w i < 16) (K : Int32 → Int32 → Int32 → (Nat → Nat → Int32) → (Nat → Nat → Int64) → xRr → Option (Int32 × xSt)) : ∀ d n k hi, k + d = ln → d < n → hi 90 22 = nI ln → (∀ j, j < ln → hi 119 j = nI (w j)) → (∀ j, j < 5 * ln → hi 120 j = nI (lp j)) → (∀ i x, (ordL w ln wv ++ ofl w k wv)[i]? = some x → ∀ e, e < 5 → hi 107 (5 * i + e) = nI (lp (5 * x + e))) → ∃ hi', F_X12_reorders_66 K n (nI (ordL w ln wv ++ ofl w k wv).length) (nI (mvA 0 (ordL w ln wv ++ ofl w k wv))) (nI wv) (nI k) hi hl r = K (nI (ordL w ln (wv + 1)).length) (nI (mvA 0 (ordL w ln (wv + 1)))) (nI (wv + 1)) hi' hl r ∧ (∀ a, a ≠ 107 → hi' a = hi a) ∧ (∀ i x, (ordL w ln (wv + 1))[i]? = some x → ∀ e, e < 5 → hi' 107 (5 * i + e) = nI (lp (5 * x + e))) := by
  intro d
  induction d with
  | zero =>
    intro n k hi hkd hn e22 e119 e120 e107
    obtain ⟨n, rfl⟩ : ∃ q, n = q + 1 := ⟨n - 1, by omega⟩
    have e : k = ln := by omega
    subst e
    refine ⟨hi, ?_, fun _ _ => rfl, e107⟩
    unfold F_X12_reorders_66
    rw [e22, if_pos ((nI_leI (by omega) (by omega)).mpr (Nat.le_refl _)), show nI wv + 1 = nI (wv + 1) from nI_1 _]
    rfl
  | succ d ih =>
    intro n k hi hkd hn e22 e119 e120 e107
    obtain ⟨n, rfl⟩ : ∃ q, n = q + 1 := ⟨n - 1, by omega⟩
    have g : ¬ nI ln ≤ nI k := by rw [nI_leI (by omega) (by omega)]; omega
    have hwk := hw k (by omega)
    have ew : (nI (w k) = nI wv) = (w k = wv) := nI_eq' (by omega) (by omega)
    unfold F_X12_reorders_66 F_X12_reorders_98
    rw [e22, if_neg g, if_pos (xok_t (by omega) (by decide)), cl_nI (by omega), e119 k (by omega)]
    simp only [ew]
    by_cases c : w k = wv
    · have rm := ord_room (w := w) (ln := ln) (k := k) (by omega) c
      have es : ordL w ln wv ++ ofl w (k + 1) wv = (ordL w ln wv ++ ofl w k wv) ++ [k] := by rw [ofl_s, if_pos c, List.append_assoc]
      generalize eL : ordL w ln wv ++ ofl w k wv = L at rm es e107
      have ek : (nI k = nI L.length) = (k = L.length) := nI_eq' (by omega) (by omega)
      obtain ⟨hi', z1, z2, z3⟩ := ih n (k + 1) (xfill hi 107 (5 * L.length) 5 (fun j => hi 120 (5 * k + (j - 5 * L.length)))) (by omega) (by omega) (by rw [xfill_ne _ _ _ _ (by decide)]; exact e22) (fun j hj => by rw [xfill_ne _ _ _ _ (by decide)]; exact e119 j hj) (fun j hj => by rw [xfill_ne _ _ _ _ (by decide)]; exact e120 j hj) (fun i x hx e he => by
        rw [es] at hx
        rcases Nat.lt_or_ge i L.length with hl9 | hl9
        · rw [List.getElem?_append_left hl9] at hx
          rw [xfill_out _ _ _ _ _ (Or.inr (Or.inl (by omega)))]
          exact e107 i x hx e he
        · by_cases e' : i = L.length
          · subst e'
            rw [List.getElem?_append_right (Nat.le_refl _)] at hx
            simp at hx
            subst hx
            rw [xfill_in _ _ _ _ _ (by omega) (by omega), show 5 * L.length + e - 5 * L.length = e by omega, e120 _ (by omega)]
          · rw [List.getElem?_eq_none (by simp; omega)] at hx
            exact absurd hx (by simp))
      refine ⟨hi', ?_, fun a ha => by rw [z2 a ha, xfill_ne _ _ _ _ ha], z3⟩
      rw [if_pos c, ← z1, es, List.length_append, mvA_s]
      simp only [ek, Nat.zero_add]
      by_cases d : k = L.length
      · rw [if_pos d, if_pos d, show nI (mvA 0 L) + 0 = nI (mvA 0 L + 0) from nI_add _ 0, move_m (by omega) (by omega)]
        rfl
      · rw [if_neg d, if_neg d, show nI (mvA 0 L) + 1 = nI (mvA 0 L + 1) from nI_1 _, move_m (by omega) (by omega)]
        rfl
    · have es : ordL w ln wv ++ ofl w (k + 1) wv = ordL w ln wv ++ ofl w k wv := by rw [ofl_s, if_neg c]
      obtain ⟨hi', z1, z2, z3⟩ := ih n (k + 1) hi (by omega) (by omega) e22 e119 e120 (by rw [es]; exact e107)
      rw [es] at z1
      refine ⟨hi', ?_, z2, z3⟩
      unfold F_X12_reorders_141
      rw [if_neg c, show nI k + 1 = nI (k + 1) from nI_1 k, z1]
theorem reo_out (hln : ln ≤ 16) (hw : ∀ i, i < ln → w i < 16) : ∀ d n wv hi, wv + d = ln → d < n → hi 90 22 = nI ln → (∀ j, j < ln → hi 119 j = nI (w j)) → (∀ j, j < 5 * ln → hi 120 j = nI (lp j)) → (∀ i x, (ordL w ln wv)[i]? = some x → ∀ e, e < 5 → hi 107 (5 * i + e) = nI (lp (5 * x + e))) → ∃ hi', F_X12_reorders_55 n (nI (ordL w ln wv).length) (nI (mvA 0 (ordL w ln wv))) (nI wv) hi hl r = some (nI (mvA 0 (ordL w ln ln)), hi', hl, r) ∧ (∀ a, a ≠ 107 → hi' a = hi a) ∧ (∀ i x, (ordL w ln ln)[i]? = some x → ∀ e, e < 5 → hi' 107 (5 * i + e) = nI (lp (5 * x + e))) := by
  intro d
  induction d with
  | zero =>
    intro n wv hi hkd hn e22 e119 e120 e107
    obtain ⟨n, rfl⟩ : ∃ q, n = q + 1 := ⟨n - 1, by omega⟩
    have e : wv = ln := by omega
    subst e
    refine ⟨hi, ?_, fun _ _ => rfl, e107⟩
    unfold F_X12_reorders_55
    rw [e22, if_pos ((nI_leI (by omega) (by omega)).mpr (Nat.le_refl _))]
  | succ d ih =>
    intro n wv hi hkd hn e22 e119 e120 e107
    obtain ⟨n, rfl⟩ : ∃ q, n = q + 1 := ⟨n - 1, by omega⟩
    have g : ¬ nI ln ≤ nI wv := by rw [nI_leI (by omega) (by omega)]; omega
    have e0 : ordL w ln wv ++ ofl w 0 wv = ordL w ln wv := List.append_nil _
    obtain ⟨hi1, q1, q2, q3⟩ := reo_in (hl := hl) (r := r) (lp := lp) hln (wv := wv) (by omega) hw (F_X12_reorders_55 n) ln 1000000 0 hi (by omega) (by omega) e22 e119 e120 (by rw [e0]; exact e107)
    rw [e0, show nI 0 = (0 : Int32) from rfl] at q1
    obtain ⟨hi', z1, z2, z3⟩ := ih n (wv + 1) hi1 (by omega) (by omega) (by rw [q2 90 (by decide)]; exact e22) (fun j hj => by rw [q2 119 (by decide)]; exact e119 j hj) (fun j hj => by rw [q2 120 (by decide)]; exact e120 j hj) q3
    refine ⟨hi', ?_, fun a ha => by rw [z2 a ha, q2 a ha], z3⟩
    unfold F_X12_reorders_55
    rw [e22, if_neg g, q1, z1]
end REOM
