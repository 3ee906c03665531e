/-! plans -/
/-- the parts of a line that a caller may give, as they are kept -/
def gdl (nv : Nat) (a0 a1 a2 a3 a4 : Int32) (k x1 x2 x3 x4 : Nat) : Prop :=
  a0 = nI k ∧ k ≤ 6 ∧ (k < 5 → a1 = nI x1 ∧ a2 = nI x2 ∧ a3 = nI x3 ∧ a4 = nI x4 ∧ x1 < nv ∧ x3 < nv ∧ x2 ≤ 13 ∧ x4 ≤ 13) ∧ (k = 5 → a1 = nI x1 ∧ x1 ≤ 9 ∧ x2 = 0 ∧ x3 = 0 ∧ x4 = 0) ∧ (k = 6 → x1 = 0 ∧ x2 = 0 ∧ x3 = 0 ∧ x4 = 0)
theorem isLine_b {hi hi' : Nat → Nat → Int32} {hl hl' : Nat → Nat → Int64} {r r' : xRr} {nv : Nat} (hv : hi 6 8 = nI nv) (hv' : hi' 90 6 = nI nv) (hn : nv ≤ 8) (a0 a1 a2 a3 a4 : Int32) :
    (F_X11_isLine a0 a1 a2 a3 a4 hi hl r = some (0, hi, hl, r) ∧ F_X12_isLine a0 a1 a2 a3 a4 hi' hl' r' = some (0, hi', hl', r')) ∨
    (F_X11_isLine a0 a1 a2 a3 a4 hi hl r = some (1, hi, hl, r) ∧ F_X12_isLine a0 a1 a2 a3 a4 hi' hl' r' = some (1, hi', hl', r') ∧ ∃ k x1 x2 x3 x4, gdl nv a0 a1 a2 a3 a4 k x1 x2 x3 x4) := by
  rcases rng a0 (n := 7) (by decide) with ⟨k, hk, rfl, ek⟩ | hb
  · by_cases k5 : k = 5
    · subst k5
      rcases rng a1 (n := 10) (by decide) with ⟨x, hx, rfl, ex⟩ | hb
      · refine Or.inr ⟨?_, ?_, 5, x, 0, 0, 0, rfl, by omega, by omega, fun _ => ⟨rfl, by omega, rfl, rfl, rfl⟩, by omega⟩
        · unfold F_X11_isLine
          rw [if_pos (by decide), wi ex hx (by decide), xbP_some, if_pos (Or.inr rfl)]
        · unfold F_X12_isLine F_X12_isLine_88
          rw [if_pos (by decide), if_neg (by decide), if_pos (by decide), ii ex hx (by decide), xbP_some, if_neg (by decide)]
      · refine Or.inl ⟨?_, ?_⟩
        · unfold F_X11_isLine
          rw [if_pos (by decide), wo hb (by decide), xbP_some, if_pos (Or.inl rfl)]
        · unfold F_X12_isLine F_X12_isLine_88
          rw [if_pos (by decide), if_neg (by decide), if_pos (by decide), io hb (by decide), xbP_some, if_pos rfl]
    · by_cases k6 : k = 6
      · subst k6
        refine Or.inr ⟨?_, ?_, 6, 0, 0, 0, 0, rfl, by omega, by omega, by omega, fun _ => ⟨rfl, rfl, rfl, rfl⟩⟩
        · unfold F_X11_isLine
          rw [if_neg (by decide), if_pos (by decide)]
        · unfold F_X12_isLine F_X12_isLine_88
          rw [if_pos (by decide), if_pos (by decide)]
      · have c5 : ¬ nI k = (5 : Int32) := by rw [show (5 : Int32) = nI 5 from rfl, nI_eq' (by omega) (by decide)]; exact k5
        have c6 : ¬ nI k = (6 : Int32) := by rw [show (6 : Int32) = nI 6 from rfl, nI_eq' (by omega) (by decide)]; exact k6
        have g5 : ¬ (5 : Int32) ≤ nI k := by rw [show (5 : Int32) = nI 5 from rfl, nI_leI (by decide) (by omega)]; omega
        have q1 : F_X11_within (nI k) 0 4 = some 1 := wi ek (show k < 5 by omega) (by decide)
        have q2 : F_X12_in (nI k).toInt64 0 4 = some 1 := ii ek (show k < 5 by omega) (by decide)
        unfold F_X11_isLine F_X12_isLine
        rw [if_neg c5, if_neg c6, q1, xbP_some, if_neg (by decide), if_neg g5, q2, xbP_some, if_neg (by decide)]
        rcases rng a1 (n := nv) (by omega) with ⟨x1, hx1, rfl, ex1⟩ | hb
        · rw [vhas_i hv hn hx1, xbI_some, if_neg (by decide), mview_i hv' hn hx1, xbI_some, if_neg (by decide)]
          rcases rng a3 (n := nv) (by omega) with ⟨x3, hx3, rfl, ex3⟩ | hb
          · rw [vhas_i hv hn hx3, xbI_some, if_neg (by decide), mview_i hv' hn hx3, xbI_some, if_neg (by decide)]
            rcases rng a2 (n := 14) (by omega) with ⟨x2, hx2, rfl, ex2⟩ | hb
            · rw [wi ex2 hx2 (by decide), xbP_some, if_neg (by decide), ii ex2 hx2 (by decide), xbP_some, if_neg (by decide)]
              rcases rng a4 (n := 14) (by omega) with ⟨x4, hx4, rfl, ex4⟩ | hb
              · rw [wi ex4 hx4 (by decide), xbP_some, if_neg (by decide), ii ex4 hx4 (by decide), xbP_some, if_neg (by decide)]
                exact Or.inr ⟨rfl, rfl, k, x1, x2, x3, x4, rfl, by omega, fun _ => ⟨rfl, rfl, rfl, rfl, hx1, hx3, by omega, by omega⟩, by omega, by omega⟩
              · rw [wo hb (by decide), xbP_some, if_pos rfl, io hb (by decide), xbP_some, if_pos rfl]
                exact Or.inl ⟨rfl, rfl⟩
            · rw [wo hb (by decide), xbP_some, if_pos rfl, io hb (by decide), xbP_some, if_pos rfl]
              exact Or.inl ⟨rfl, rfl⟩
          · rw [vhas_o hv hn hb, xbI_some, if_pos rfl, mview_o hv' hn hb, xbI_some, if_pos rfl]
            exact Or.inl ⟨rfl, rfl⟩
        · rw [vhas_o hv hn hb, xbI_some, if_pos rfl, mview_o hv' hn hb, xbI_some, if_pos rfl]
          exact Or.inl ⟨rfl, rfl⟩
  · have c5 : ¬ a0 = (5 : Int32) := fun e => hb (by rw [e]; decide)
    have c6 : ¬ a0 = (6 : Int32) := fun e => hb (by rw [e]; decide)
    have hb5 : ¬ (0 ≤ a0.toInt ∧ a0.toInt ≤ ((5 : Nat) : Int) - 1) := by omega
    refine Or.inl ⟨?_, ?_⟩
    · unfold F_X11_isLine
      rw [if_neg c5, if_neg c6, wo hb5 (by decide), xbP_some, if_pos rfl]
    · unfold F_X12_isLine
      by_cases g : (5 : Int32) ≤ a0
      · rw [if_pos g, if_neg c6, if_neg c5]
      · rw [if_neg g, io hb5 (by decide), xbP_some, if_pos rfl]
def x5 (f : Nat → Nat → Int32) (a b : Nat) (v0 v1 v2 v3 v4 : Int32) : Nat → Nat → Int32 := xu (xu (xu (xu (xu f a b v0) a (b + 1) v1) a (b + 2) v2) a (b + 3) v3) a (b + 4) v4
theorem x5_ne (f : Nat → Nat → Int32) {a b x : Nat} (v0 v1 v2 v3 v4 : Int32) (h : x ≠ a) : x5 f a b v0 v1 v2 v3 v4 x = f x := by
  unfold x5
  rw [xu_ne _ _ _ h, xu_ne _ _ _ h, xu_ne _ _ _ h, xu_ne _ _ _ h, xu_ne _ _ _ h]
theorem x5_at (f : Nat → Nat → Int32) (a b j : Nat) (v0 v1 v2 v3 v4 : Int32) : x5 f a b v0 v1 v2 v3 v4 a j = if j = b then v0 else if j = b + 1 then v1 else if j = b + 2 then v2 else if j = b + 3 then v3 else if j = b + 4 then v4 else f a j := by
  unfold x5
  simp only [xu, true_and]
  by_cases e0 : j = b
  · subst e0; simp
  · by_cases e1 : j = b + 1
    · subst e1; simp
    · by_cases e2 : j = b + 2
      · subst e2; simp
      · by_cases e3 : j = b + 3
        · subst e3; simp
        · by_cases e4 : j = b + 4
          · subst e4; simp
          · simp [e0, e1, e2, e3, e4]
def opk (k o : Nat) : Nat := if k = 5 then o + 1 else if k = 6 then o - 1 else o
theorem append_c {hi : Nat → Nat → Int32} {hl : Nat → Nat → Int64} {r : xRr} {ln o k : Nat} (h : hi 30 2 = nI ln) (ho : hi 30 3 = nI o) (hln : ln < 16) (hk : k ≤ 6) (ho3 : o ≤ 3) (h6 : k = 6 → 0 < o) (v1 v2 v3 v4 : Int32) :
    F_X4_append (nI k) v1 v2 v3 v4 hi hl r = some (nI (ln + 1), xu (xu (x5 hi 31 (5 * ln) (nI k) v1 v2 v3 v4) 30 2 (nI (ln + 1))) 30 3 (nI (opk k o)), hl, r) := by
  have e0 : nI ln * 5 + 0 = nI (5 * ln) := by rw [nI_mul5, Nat.mul_comm]; exact nI_add _ 0
  have e1 : nI ln * 5 + 1 = nI (5 * ln + 1) := by rw [nI_mul5, Nat.mul_comm]; exact nI_add _ 1
  have e2 : nI ln * 5 + 2 = nI (5 * ln + 2) := by rw [nI_mul5, Nat.mul_comm]; exact nI_add _ 2
  have e3 : nI ln * 5 + 3 = nI (5 * ln + 3) := by rw [nI_mul5, Nat.mul_comm]; exact nI_add _ 3
  have e4 : nI ln * 5 + 4 = nI (5 * ln + 4) := by rw [nI_mul5, Nat.mul_comm]; exact nI_add _ 4
  unfold F_X4_append
  rw [h, e0, e1, e2, e3, e4, if_pos (xok_t (by omega) (by decide)), if_pos (xok_t (by omega) (by decide)), if_pos (xok_t (by omega) (by decide)), if_pos (xok_t (by omega) (by decide)), if_pos (xok_t (by omega) (by decide)), opens_c hk, xbP_some, cl_nI (by omega), cl_nI (by omega), cl_nI (by omega), cl_nI (by omega), cl_nI (by omega)]
  show some (xu (xu (x5 hi 31 (5 * ln) (nI k) v1 v2 v3 v4) 30 2 ((x5 hi 31 (5 * ln) (nI k) v1 v2 v3 v4) 30 2 + 1)) 30 3 ((xu (x5 hi 31 (5 * ln) (nI k) v1 v2 v3 v4) 30 2 ((x5 hi 31 (5 * ln) (nI k) v1 v2 v3 v4) 30 2 + 1)) 30 3 + (if k = 5 then 1 else if k = 6 then -1 else 0)) 30 2, xu (xu (x5 hi 31 (5 * ln) (nI k) v1 v2 v3 v4) 30 2 ((x5 hi 31 (5 * ln) (nI k) v1 v2 v3 v4) 30 2 + 1)) 30 3 ((xu (x5 hi 31 (5 * ln) (nI k) v1 v2 v3 v4) 30 2 ((x5 hi 31 (5 * ln) (nI k) v1 v2 v3 v4) 30 2 + 1)) 30 3 + (if k = 5 then 1 else if k = 6 then -1 else 0)), hl, r) = _
  have eo : nI o + (if k = 5 then 1 else if k = 6 then -1 else 0) = nI (opk k o) := by
    unfold opk
    by_cases c5 : k = 5
    · simp only [if_pos c5]; exact nI_1 o
    · simp only [if_neg c5]
      by_cases c6 : k = 6
      · simp only [if_pos c6]
        have := h6 c6
        rcases (show o = 1 ∨ o = 2 ∨ o = 3 by omega) with rfl | rfl | rfl <;> decide
      · simp only [if_neg c6]; exact nI_add o 0
  rw [x5_ne _ _ _ _ _ _ (by decide), h, show nI ln + 1 = nI (ln + 1) from nI_1 ln, xu_ne2 _ _ (Or.inr (by decide)), xu_at, xu_ne2 _ _ (Or.inr (by decide)), x5_ne _ _ _ _ _ _ (by decide), ho, eo]
theorem mplan_c {hi : Nat → Nat → Int32} {hl : Nat → Nat → Int64} {r : xRr} {ln nv k x1 x2 x3 x4 : Nat} {a0 a1 a2 a3 a4 : Int32} (h : hi 90 22 = nI ln) (hln : ln < 16) (hg : gdl nv a0 a1 a2 a3 a4 k x1 x2 x3 x4) :
    F_X12_plans_62 a0 a1 a2 a3 a4 hi hl r = some (nI (ln + 1), xu (x5 hi 107 (5 * ln) (nI k) (nI x1) (nI x2) (nI x3) (nI x4)) 90 22 (nI (ln + 1)), hl, r) := by
  obtain ⟨rfl, hk, hg1, hg2, hg3⟩ := hg
  have g5 : ((5 : Int32) ≤ nI k) = (5 ≤ k) := nI_le' (a := 5) (by decide) (by omega)
  have g6 : ((6 : Int32) ≤ nI k) = (6 ≤ k) := nI_le' (a := 6) (by decide) (by omega)
  have s1 : (if 6 ≤ k then 0 else a1) = nI x1 := by
    by_cases c : 6 ≤ k
    · rw [if_pos c, (hg3 (by omega)).1]; rfl
    · rw [if_neg c]
      by_cases c5 : k = 5
      · exact (hg2 c5).1
      · exact (hg1 (by omega)).1
  have s2 : (if 5 ≤ k then 0 else a2) = nI x2 := by
    by_cases c : 5 ≤ k
    · rw [if_pos c]
      by_cases c5 : k = 5
      · rw [(hg2 c5).2.2.1]; rfl
      · rw [(hg3 (by omega)).2.1]; rfl
    · rw [if_neg c]; exact (hg1 (by omega)).2.1
  have s3 : (if 5 ≤ k then 0 else a3) = nI x3 := by
    by_cases c : 5 ≤ k
    · rw [if_pos c]
      by_cases c5 : k = 5
      · rw [(hg2 c5).2.2.2.1]; rfl
      · rw [(hg3 (by omega)).2.2.1]; rfl
    · rw [if_neg c]; exact (hg1 (by omega)).2.2.1
  have s4 : (if 5 ≤ k then 0 else a4) = nI x4 := by
    by_cases c : 5 ≤ k
    · rw [if_pos c]
      by_cases c5 : k = 5
      · rw [(hg2 c5).2.2.2.2]; rfl
      · rw [(hg3 (by omega)).2.2.2]; rfl
    · rw [if_neg c]; exact (hg1 (by omega)).2.2.2.1
  have u : ∀ (f : Nat → Nat → Int32) (j : Nat) (v : Int32), (xu f 107 j v) 90 22 = f 90 22 := fun f j v => xu_ne2 _ _ (Or.inl (by decide))
  have m0 : (5 : Int32) * nI ln = nI (5 * ln) := nI_5mul ln
  have m1 : nI (5 * ln) + (1 : Int32) = nI (5 * ln + 1) := nI_add _ 1
  have m2 : nI (5 * ln) + (2 : Int32) = nI (5 * ln + 2) := nI_add _ 2
  have m3 : nI (5 * ln) + (3 : Int32) = nI (5 * ln + 3) := nI_add _ 3
  have m4 : nI (5 * ln) + (4 : Int32) = nI (5 * ln + 4) := nI_add _ 4
  have k0 : xok (nI (5 * ln)) 80 = true := xok_t (by omega) (by decide)
  have k1 : xok (nI (5 * ln + 1)) 80 = true := xok_t (by omega) (by decide)
  have k2 : xok (nI (5 * ln + 2)) 80 = true := xok_t (by omega) (by decide)
  have k3 : xok (nI (5 * ln + 3)) 80 = true := xok_t (by omega) (by decide)
  have k4 : xok (nI (5 * ln + 4)) 80 = true := xok_t (by omega) (by decide)
  have c0 : (nI (5 * ln)).toNatClampNeg = 5 * ln := cl_nI (by omega)
  have c1 : (nI (5 * ln + 1)).toNatClampNeg = 5 * ln + 1 := cl_nI (by omega)
  have c2 : (nI (5 * ln + 2)).toNatClampNeg = 5 * ln + 2 := cl_nI (by omega)
  have c3 : (nI (5 * ln + 3)).toNatClampNeg = 5 * ln + 3 := cl_nI (by omega)
  have c4 : (nI (5 * ln + 4)).toNatClampNeg = 5 * ln + 4 := cl_nI (by omega)
  have t4 : ∀ f : Nat → Nat → Int32, f 90 22 = nI ln → ∀ v, F_X12_plans_168 (nI (5 * ln + 4)) v f hl r = some (nI (ln + 1), xu (xu f 107 (5 * ln + 4) v) 90 22 (nI (ln + 1)), hl, r) := by
    intro f hf v
    unfold F_X12_plans_168
    rw [if_pos k4, c4, u, hf, show nI ln + 1 = nI (ln + 1) from nI_1 ln, xu_at]
  have t3 : ∀ f : Nat → Nat → Int32, f 90 22 = nI ln → ∀ v, F_X12_plans_144 (nI k) a4 (nI (5 * ln + 3)) v f hl r = some (nI (ln + 1), xu (xu (xu f 107 (5 * ln + 3) v) 107 (5 * ln + 4) (nI x4)) 90 22 (nI (ln + 1)), hl, r) := by
    intro f hf v
    unfold F_X12_plans_144
    rw [if_pos k3, c3, u, hf, m0, m4, t4 _ (by rw [u, hf]), t4 _ (by rw [u, hf]), ← s4]
    simp only [g5]
    by_cases c : 5 ≤ k
    · simp only [if_pos c]
    · simp only [if_neg c]
  have t2 : ∀ f : Nat → Nat → Int32, f 90 22 = nI ln → ∀ v, F_X12_plans_120 (nI k) a3 a4 (nI (5 * ln + 2)) v f hl r = some (nI (ln + 1), xu (xu (xu (xu f 107 (5 * ln + 2) v) 107 (5 * ln + 3) (nI x3)) 107 (5 * ln + 4) (nI x4)) 90 22 (nI (ln + 1)), hl, r) := by
    intro f hf v
    unfold F_X12_plans_120
    rw [if_pos k2, c2, u, hf, m0, m3, t3 _ (by rw [u, hf]), t3 _ (by rw [u, hf]), ← s3]
    simp only [g5]
    by_cases c : 5 ≤ k
    · simp only [if_pos c]
    · simp only [if_neg c]
  have t1 : ∀ f : Nat → Nat → Int32, f 90 22 = nI ln → ∀ v, F_X12_plans_97 (nI k) a2 a3 a4 (nI (5 * ln + 1)) v f hl r = some (nI (ln + 1), xu (xu (xu (xu (xu f 107 (5 * ln + 1) v) 107 (5 * ln + 2) (nI x2)) 107 (5 * ln + 3) (nI x3)) 107 (5 * ln + 4) (nI x4)) 90 22 (nI (ln + 1)), hl, r) := by
    intro f hf v
    unfold F_X12_plans_97
    rw [if_pos k1, c1, u, hf, m0, m2, t2 _ (by rw [u, hf]), t2 _ (by rw [u, hf]), ← s2]
    simp only [g5]
    by_cases c : 5 ≤ k
    · simp only [if_pos c]
    · simp only [if_neg c]
  unfold F_X12_plans_62
  rw [h, m0, if_pos k0, c0, u, h, m0, m1, t1 _ (by rw [u, h]), t1 _ (by rw [u, h]), ← s1]
  simp only [g6]
  by_cases c : 6 ≤ k
  · simp only [if_pos c]; rfl
  · simp only [if_neg c]; rfl
theorem opn_ext {lp lp' : Nat → Nat} : ∀ i, (∀ j, j < i → lp' (5 * j) = lp (5 * j)) → opn lp' i = opn lp i := by
  intro i
  induction i with
  | zero => intro _; rfl
  | succ i ih =>
    intro h
    simp only [opn]
    rw [h i (by omega), ih (fun j hj => h j (by omega))]
theorem open_m2 {nv ln : Nat} {lp : Nat → Nat} {hi0 hi : Nat → Nat → Int32} {hl : Nat → Nat → Int64} {r : xRr} (h : IL nv ln lp hi0) (w1 : hi 107 = hi0 107) (w2 : hi 90 22 = hi0 90 22) : F_X12_open hi hl r = some (nI (opn lp ln), hi, hl, r) := by
  have hln := h.1
  have key : ∀ k n i, i + k = ln → k < n → F_X12_open_4 n (nI (opn lp i)) (nI i) hi hl r = some (nI (opn lp ln), hi, hl, r) := by
    intro k
    induction k with
    | zero =>
      intro n i hik hn
      obtain ⟨n, rfl⟩ : ∃ q, n = q + 1 := ⟨n - 1, by omega⟩
      have : i = ln := by omega
      subst this
      unfold F_X12_open_4
      rw [w2, h.2.2.1, if_pos ((nI_leI (by omega) (by omega)).mpr (Nat.le_refl _))]
    | succ k ih =>
      intro n i hik hn
      obtain ⟨n, rfl⟩ : ∃ q, n = q + 1 := ⟨n - 1, by omega⟩
      unfold F_X12_open_4
      have g : ¬ nI ln ≤ nI i := by
        rw [nI_leI (by omega) (by omega)]
        omega
      obtain ⟨e1, e2⟩ := lp_at h (show i < ln by omega)
      have hopn := h.2.2.2.2.2.2 i (by omega)
      rw [w2, h.2.2.1, if_neg g, nI_5mul, if_pos (xok_t (by omega) (by omega)), cl_nI (by omega), w1, e1]
      have i5 : (nI (lp (5 * i)) = (5 : Int32)) = (lp (5 * i) = 5) := nI_eq' (b := 5) (by omega) (by decide)
      have i6 : (nI (lp (5 * i)) = (6 : Int32)) = (lp (5 * i) = 6) := nI_eq' (b := 6) (by omega) (by decide)
      have e : nI i + 1 = nI (i + 1) := nI_1 i
      simp only [i5, i6, F_X12_open_47, e]
      have ih1 := ih n (i + 1) (by omega) (by omega)
      simp only [opn] at ih1
      by_cases c5 : lp (5 * i) = 5
      · rw [if_pos c5] at ih1 ⊢
        rw [show nI (opn lp i) + 1 = nI (opn lp i + 1) from nI_1 _]
        exact ih1
      · rw [if_neg c5] at ih1 ⊢
        by_cases c6 : lp (5 * i) = 6
        · rw [if_pos c6] at ih1 ⊢
          have hpos := ((h.2.2.2.2.2.1 i (by omega)).2.2.2 c6).1
          obtain ⟨o, ho⟩ : ∃ o, opn lp i = o + 1 := ⟨opn lp i - 1, by omega⟩
          rw [ho] at ih1 ⊢
          rw [pk_m1 o]
          exact ih1
        · rw [if_neg c6] at ih1 ⊢
          have e0 : nI (opn lp i) + 0 = nI (opn lp i) := nI_add _ 0
          rw [e0]
          exact ih1
  have h1 := key ln 1000000 0 (by omega) (by omega)
  unfold F_X12_open
  exact h1
theorem op_plans (a0 a1 a2 a3 a4 : Int32) : xOpI xInv (F_X11_plans a0 a1 a2 a3 a4) (F_X12_plans a0 a1 a2 a3 a4) := by
  intro hi hl r h
  have h0 := h
  obtain ⟨nb, bk, bz, ck, cn, nv, vb, vf, vs, vc, vk, ch, bo, tk, tn, P, nx, G, ln, lp, md, mt, sn, st, sc, h1, h2, h3, h4, h5, h6, h7, h8, h9⟩ := h
  have hIL := h6
  obtain ⟨l1, l2, l3, l4, l5, l6, l7⟩ := h6
  have hv := h2.2.1
  have hv2 := h2.2.2.1
  have o3 := l7 ln (Nat.le_refl _)
  generalize hy : xu hi 90 0 (0 : Int32) = hiy
  have yv : hiy 90 6 = nI nv := by rw [← hy, xu_ne2 _ _ (Or.inr (by decide))]; exact hv2
  have yl : hiy 90 22 = nI ln := by rw [← hy, xu_ne2 _ _ (Or.inr (by decide))]; exact l3
  have yo := open_m (hl := hl) (r := r) (hIL.sc (scI.p (hi := hi) (0 : Int32) (show 0 ∉ [1, 6, 13, 15, 22, 26, 29] by decide)))
  rw [hy] at yo
  have hth := h0.th
  rw [hy] at hth
  rcases isLine_b (hl := hl) (hl' := hl) (r := r) (r' := r) hv yv h2.1 a0 a1 a2 a3 a4 with ⟨i1, i2⟩ | ⟨i1, i2, k, x1, x2, x3, x4, hg⟩
  · refine ⟨-1, (hi, hl, r), (hiy, hl, r), ?_, ?_, hth⟩
    · unfold F_X11_plans
      rw [i1, xbI_some, if_pos rfl]
    · unfold F_X12_plans
      simp only
      rw [hy, i2, xbI_some, if_pos rfl]
  · have hg0 := hg
    obtain ⟨rfl, hk, hg1, hg2, hg3⟩ := hg
    have q6 : (nI k = (6 : Int32)) = (k = 6) := nI_eq' (b := 6) (by omega) (by decide)
    have q5 : (nI k = (5 : Int32)) = (k = 5) := nI_eq' (b := 5) (by omega) (by decide)
    have q5' : ((5 : Int32) ≤ nI k) = (5 ≤ k) := nI_le' (a := 5) (by decide) (by omega)
    have qo0 : (nI (opn lp ln) = (0 : Int32)) = (opn lp ln = 0) := nI_eq' (b := 0) (by omega) (by decide)
    have qo3 : (nI (opn lp ln) = (3 : Int32)) = (opn lp ln = 3) := nI_eq' (b := 3) (by omega) (by decide)
    have ql : (nI ln = (16 : Int32)) = (ln = 16) := nI_eq' (b := 16) (by omega) (by decide)
    have A : F_X11_plans (nI k) a1 a2 a3 a4 hi hl r = if k = 6 ∧ opn lp ln = 0 then some (-2, hi, hl, r) else F_X11_plans_35 (nI k) a1 a2 a3 a4 hi hl r := by
      unfold F_X11_plans
      rw [i1, xbI_some, if_neg (by decide), l4]
      simp only [q6, qo0]
      by_cases c : k = 6
      · by_cases d : opn lp ln = 0
        · simp [c, d]
        · simp [c, d]
      · simp [c]
    have B : ∀ hi', (∀ a, a ∉ [30, 31] → hi' a = hi a) → F_X12_plans (nI k) a1 a2 a3 a4 hi' hl r = if k = 6 ∧ opn lp ln = 0 then some (-2, xu hi' 90 0 0, hl, r) else F_X12_plans_37 (nI k) a1 a2 a3 a4 (xu hi' 90 0 0) hl r := by
      intro hi' he
      have i3 : F_X12_isLine (nI k) a1 a2 a3 a4 (xu hi' 90 0 0) hl r = some (1, xu hi' 90 0 0, hl, r) := by
        have yv' : (xu hi' 90 0 (0 : Int32)) 90 6 = nI nv := by rw [xu_ne2 _ _ (Or.inr (by decide)), he 90 (by decide)]; exact hv2
        rcases isLine_b (hl := hl) (hl' := hl) (r := r) (r' := r) hv yv' h2.1 (nI k) a1 a2 a3 a4 with ⟨j1, j2⟩ | ⟨j1, j2, -⟩
        · rw [i1] at j1
          have := congrArg Prod.fst (Option.some.inj j1)
          exact absurd (show (1 : Int32) = 0 from this) (by decide)
        · exact j2
      have yo' := open_m2 (hi := xu hi' 90 0 (0 : Int32)) (hl := hl) (r := r) hIL (by rw [xu_ne _ _ _ (by decide), he 107 (by decide)]) (by rw [xu_ne2 _ _ (Or.inr (by decide)), he 90 (by decide)])
      unfold F_X12_plans
      rw [i3, xbI_some, if_neg (by decide), yo', xbI_some]
      simp only [q6, qo0]
      by_cases c : k = 6
      · by_cases d : opn lp ln = 0
        · simp [c, d]
        · simp [c, d]
      · simp [c]
    by_cases c1 : k = 6 ∧ opn lp ln = 0
    · refine ⟨-2, (hi, hl, r), (hiy, hl, r), ?_, ?_, hth⟩
      · rw [A, if_pos c1]
      · simp only
        rw [B hi (fun _ _ => rfl), if_pos c1, hy]
    · rw [if_neg c1] at A
      by_cases c2 : ln = 16 ∨ (k = 5 ∧ opn lp ln = 3)
      · refine ⟨-3, (hi, hl, r), (hiy, hl, r), ?_, ?_, hth⟩
        · rw [A]
          unfold F_X11_plans_35
          rw [l2, l4]
          simp only [ql, q5, qo3]
          rcases c2 with c2 | ⟨c2, c3⟩
          · simp [c2]
          · simp [c2, c3]
        · simp only
          rw [B hi (fun _ _ => rfl), if_neg c1, hy]
          unfold F_X12_plans_37
          rw [yl, yo, xbI_some]
          simp only [ql, q5, qo3]
          rcases c2 with c2 | ⟨c2, c3⟩
          · simp [c2]
          · simp [c2, c3]
      · have c3 : ¬ ln = 16 := fun e => c2 (Or.inl e)
        have c4 : k = 5 → ¬ opn lp ln = 3 := fun e f => c2 (Or.inr ⟨e, f⟩)
        have hl16 : ln < 16 := by omega
        have ap := append_c (hl := hl) (r := r) (k := k) l2 l4 hl16 hk o3 (fun e => by omega) (nI x1) (nI x2) (nI x3) (nI x4)
        generalize hA : xu (xu (x5 hi 31 (5 * ln) (nI k) (nI x1) (nI x2) (nI x3) (nI x4)) 30 2 (nI (ln + 1))) 30 3 (nI (opk k (opn lp ln))) = hiA at ap
        have rA : ∀ a, a ∉ [30, 31] → hiA a = hi a := by
          intro a ha
          simp only [List.mem_cons, List.not_mem_nil, or_false, not_or] at ha
          rw [← hA, xu_ne _ _ _ ha.1, xu_ne _ _ _ ha.1, x5_ne _ _ _ _ _ _ ha.2]
        have A2 : F_X11_plans_35 (nI k) a1 a2 a3 a4 hi hl r = some (nI (ln + 1), hiA, hl, r) := by
          unfold F_X11_plans_35 F_X11_plans_66 F_X11_plans_101
          rw [l2, l4]
          simp only [ql, q5, q5', qo3, if_neg c3]
          by_cases k5 : k = 5
          · obtain ⟨rfl, -, rfl, rfl, rfl⟩ := hg2 k5
            rw [if_pos k5, if_neg (c4 k5), if_pos (by omega), if_pos k5]
            rw [show (0 : Int32) = nI 0 from rfl, ap, xbI_some]
          · rw [if_neg k5, if_neg k5]
            by_cases k6 : k = 6
            · obtain ⟨rfl, rfl, rfl, rfl⟩ := hg3 k6
              rw [if_pos (by omega), show (0 : Int32) = nI 0 from rfl, ap, xbI_some]
            · obtain ⟨rfl, rfl, rfl, rfl, -⟩ := hg1 (by omega)
              rw [if_neg (by omega), ap, xbI_some]
        generalize hY : xu hiA 90 0 (0 : Int32) = hiY
        have Yl : hiY 90 22 = nI ln := by rw [← hY, xu_ne2 _ _ (Or.inr (by decide)), rA 90 (by decide)]; exact l3
        have Yo := open_m2 (hi := hiY) (hl := hl) (r := r) hIL (by rw [← hY, xu_ne _ _ _ (by decide), rA 107 (by decide)]) (by rw [← hY, xu_ne2 _ _ (Or.inr (by decide)), rA 90 (by decide)])
        have mp := mplan_c (hl := hl) (r := r) Yl hl16 hg0
        generalize hD : xu (x5 hiY 107 (5 * ln) (nI k) (nI x1) (nI x2) (nI x3) (nI x4)) 90 22 (nI (ln + 1)) = hiD at mp
        refine ⟨nI (ln + 1), (hiA, hl, r), (hiD, hl, r), ?_, ?_, ?_⟩
        · rw [A, A2]
        · simp only
          rw [B hiA rA, if_neg c1, hY]
          unfold F_X12_plans_37
          rw [Yl, Yo, xbI_some, mp]
          simp only [ql, q5, qo3, if_neg c3]
          by_cases k5 : k = 5
          · rw [if_pos k5, if_neg (c4 k5)]
          · rw [if_neg k5]
        · have hn : ∀ a, a ∉ [30, 31, 90, 107] → hiD a = hi a := by
            intro a ha
            simp only [List.mem_cons, List.not_mem_nil, or_false, not_or] at ha
            rw [← hD, xu_ne _ _ _ ha.2.2.1, x5_ne _ _ _ _ _ _ ha.2.2.2, ← hY, xu_ne _ _ _ ha.2.2.1, rA a (by simp <;> omega)]
          have hp : ∀ i, i ∉ [0, 22] → hiD 90 i = hi 90 i := by
            intro i hi9
            simp only [List.mem_cons, List.not_mem_nil, or_false, not_or] at hi9
            rw [← hD, xu_ne2 _ _ (Or.inr hi9.2), x5_ne _ _ _ _ _ _ (by decide), ← hY, xu_ne2 _ _ (Or.inr hi9.1), rA 90 (by decide)]
          have hnl : ∀ a, a ∉ ([] : List Nat) → hl a = hl a := fun _ _ => rfl
          have hpl : hl 90 14 = hl 90 14 := rfl
          generalize hlp : (fun j => if j = 5 * ln then k else if j = 5 * ln + 1 then x1 else if j = 5 * ln + 2 then x2 else if j = 5 * ln + 3 then x3 else if j = 5 * ln + 4 then x4 else lp j) = lp'
          have lpo : ∀ j, j < 5 * ln → lp' j = lp j := by
            intro j hj
            rw [← hlp]
            simp only
            rw [if_neg (by omega), if_neg (by omega), if_neg (by omega), if_neg (by omega), if_neg (by omega)]
          have on : ∀ i, i ≤ ln → opn lp' i = opn lp i := fun i hi9 => opn_ext i (fun j hj => lpo _ (by omega))
          have p0 : lp' (5 * ln) = k := by rw [← hlp]; simp
          have p1 : lp' (5 * ln + 1) = x1 := by rw [← hlp]; simp
          have p2 : lp' (5 * ln + 2) = x2 := by rw [← hlp]; simp
          have p3 : lp' (5 * ln + 3) = x3 := by rw [← hlp]; simp
          have p4 : lp' (5 * ln + 4) = x4 := by rw [← hlp]; simp
          have onl : opn lp' (ln + 1) = opk k (opn lp ln) := by
            simp only [opn, opk]
            rw [p0, on ln (Nat.le_refl _)]
          have opk3 : opk k (opn lp ln) ≤ 3 := by
            unfold opk
            by_cases k5 : k = 5
            · rw [if_pos k5]; have := c4 k5; omega
            · rw [if_neg k5]
              by_cases k6 : k = 6
              · rw [if_pos k6]; omega
              · rw [if_neg k6]; omega
          have lpx : ∀ j, nI (lp' j) = if j = 5 * ln then nI k else if j = 5 * ln + 1 then nI x1 else if j = 5 * ln + 2 then nI x2 else if j = 5 * ln + 3 then nI x3 else if j = 5 * ln + 4 then nI x4 else nI (lp j) := by
            intro j
            rw [← hlp]
            simp only
            by_cases e0 : j = 5 * ln
            · simp only [if_pos e0]
            · simp only [if_neg e0]
              by_cases e1 : j = 5 * ln + 1
              · simp only [if_pos e1]
              · simp only [if_neg e1]
                by_cases e2 : j = 5 * ln + 2
                · simp only [if_pos e2]
                · simp only [if_neg e2]
                  by_cases e3 : j = 5 * ln + 3
                  · simp only [if_pos e3]
                  · simp only [if_neg e3]
                    by_cases e4 : j = 5 * ln + 4
                    · simp only [if_pos e4]
                    · simp only [if_neg e4]
          refine ⟨nb, bk, bz, ck, cn, nv, vb, vf, vs, vc, vk, ch, bo, tk, tn, P, nx, G, (ln + 1), lp', md, mt, sn, st, sc, h1.tr (lx hn (by decide)) (hp 1 (by decide)) (lx hnl (by decide)), h2.tr (lx hn (by decide)) (hp 6 (by decide)), h3.tr (hn 85 (by decide)) (hnl 85 (by decide)) (hp 13 (by decide)) hpl, h4.tr (fun a g1 g2 => hn a (by simp <;> omega)) (lx hn (by decide)) (hp 15 (by decide)) (fun a g1 g2 => hnl a (by simp <;> omega)) (hnl 103 (by decide)), h5.tr (lx hn (by decide)) (lx hnl (by decide)), ?_, h7.tr (lx hn (by decide)), h8.tr (lx hn (by decide)) (hp 26 (by decide)), h9.tr (hn 121 (by decide)) (hn 112 (by decide)) (hp 29 (by decide))⟩
          have r30 : hiD 30 = hiA 30 := by rw [← hD, xu_ne _ _ _ (by decide), x5_ne _ _ _ _ _ _ (by decide), ← hY, xu_ne _ _ _ (by decide)]
          have r31 : hiD 31 = hiA 31 := by rw [← hD, xu_ne _ _ _ (by decide), x5_ne _ _ _ _ _ _ (by decide), ← hY, xu_ne _ _ _ (by decide)]
          refine ⟨by omega, ?_, ?_, ?_, ?_, ?_, ?_⟩
          · show hiD 30 2 = _
            rw [r30, ← hA, xu_ne2 _ _ (Or.inr (by decide)), xu_at]
          · show hiD 90 22 = _
            rw [← hD, xu_at]
          · show hiD 30 3 = _
            rw [r30, ← hA, xu_at, onl]
          · intro j hj
            show hiD 31 j = _ ∧ hiD 107 j = _
            rw [r31, ← hA, xu_ne _ _ _ (by decide), xu_ne _ _ _ (by decide), ← hD, xu_ne2 _ _ (Or.inl (by decide)), x5_at, x5_at, lpx, ← hY, xu_ne2 _ _ (Or.inl (by decide)), rA 107 (by decide)]
            by_cases cj : j < 5 * ln
            · rw [(l5 j cj).1, (l5 j cj).2]
              exact ⟨rfl, rfl⟩
            · rcases (show j = 5 * ln ∨ j = 5 * ln + 1 ∨ j = 5 * ln + 2 ∨ j = 5 * ln + 3 ∨ j = 5 * ln + 4 by omega) with rfl | rfl | rfl | rfl | rfl <;> simp
          · intro i hi9
            by_cases ci : i < ln
            · rw [lpo _ (by omega), lpo _ (by omega), lpo _ (by omega), lpo _ (by omega), lpo _ (by omega), on i (by omega)]
              exact l6 i ci
            · have : i = ln := by omega
              subst this
              rw [p0, p1, p2, p3, p4, on i (by omega)]
              refine ⟨hk, fun q => ?_, fun q => ?_, fun q => ?_⟩
              · obtain ⟨-, -, -, -, g1, g2, g3, g4⟩ := hg1 q
                exact ⟨g1, g2, g3, g4⟩
              · obtain ⟨-, g1, g2, g3, g4⟩ := hg2 q
                exact ⟨g1, g2, g3, g4⟩
              · obtain ⟨g1, g2, g3, g4⟩ := hg3 q
                exact ⟨by omega, g1, g2, g3, g4⟩
          · intro i hi9
            by_cases ci : i ≤ ln
            · rw [on i ci]; exact l7 i ci
            · have : i = ln + 1 := by omega
              subst this
              rw [onl]
              exact opk3
