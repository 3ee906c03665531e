/-! how few tries: pure -/
def oN (f : Nat → Bool) : Nat → Nat
  | 0 => 0
  | n + 1 => oN f n + (if f n = true then 1 else 0)
theorem ones_o (s : Nat) : ones13 s = oN s.testBit 13 := by
  have key : ∀ n, ((List.range n).map fun k => s / 2 ^ k % 2).sum = oN s.testBit n := by
    intro n
    induction n with
    | zero => rfl
    | succ n ih =>
      rw [List.range_succ, List.map_append, List.sum_append, ih]
      simp only [oN, List.map_cons, List.map_nil, List.sum_cons, List.sum_nil, Nat.add_zero]
      rw [Nat.testBit_eq_decide_div_mod_eq]
      have := Nat.mod_lt (s / 2 ^ n) (show 0 < 2 by decide)
      by_cases c : s / 2 ^ n % 2 = 1
      · simp [c]
      · rw [show s / 2 ^ n % 2 = 0 by omega]; simp
  exact key 13
theorem oN_mono {f g : Nat → Bool} : ∀ n, (∀ k, k < n → f k = true → g k = true) → oN f n ≤ oN g n := by
  intro n
  induction n with
  | zero => intro _; exact Nat.le_refl _
  | succ n ih =>
    intro h
    have h1 := ih (fun k hk => h k (by omega))
    simp only [oN]
    by_cases c : f n = true
    · rw [if_pos c, if_pos (h n (by omega) c)]; omega
    · rw [if_neg c]; omega
theorem oN_lt {f g : Nat → Bool} {i : Nat} : ∀ n, i < n → (∀ k, k < n → f k = true → g k = true) → f i = false → g i = true → oN f n < oN g n := by
  intro n
  induction n with
  | zero => intro h; omega
  | succ n ih =>
    intro hi9 h h1 h2
    simp only [oN]
    by_cases e : i = n
    · subst e
      have := oN_mono (f := f) (g := g) i (fun k hk => h k (by omega))
      rw [h1, h2]
      simp
      omega
    · have := ih (by omega) (fun k hk => h k (by omega)) h1 h2
      by_cases c : f n = true
      · rw [if_pos c, if_pos (h n (by omega) c)]; omega
      · rw [if_neg c]; omega
theorem oN_ext {f g : Nat → Bool} : ∀ n, (∀ k, k < n → f k = g k) → oN f n = oN g n := by
  intro n
  induction n with
  | zero => intro _; rfl
  | succ n ih =>
    intro h
    simp only [oN]
    rw [ih (fun k hk => h k (by omega)), h n (by omega)]
theorem oN_sum {f g e : Nat → Bool} : ∀ n, (∀ k, k < n → (e k = (f k || g k) ∧ (f k && g k) = false)) → oN e n = oN f n + oN g n := by
  intro n
  induction n with
  | zero => intro _; rfl
  | succ n ih =>
    intro h
    obtain ⟨h1, h2⟩ := h n (by omega)
    simp only [oN]
    rw [ih (fun k hk => h k (by omega)), h1]
    cases hf : f n <;> cases hg : g n <;> simp_all <;> omega
theorem oN_pair {f : Nat → Bool} : ∀ n, 2 ≤ oN f n → ∃ i j, i < j ∧ j < n ∧ f i = true ∧ f j = true := by
  have one' : ∀ n, 1 ≤ oN f n → ∃ i, i < n ∧ f i = true := by
    intro n
    induction n with
    | zero => intro h; simp [oN] at h
    | succ n ih =>
      intro h
      by_cases c : f n = true
      · exact ⟨n, by omega, c⟩
      · simp only [oN] at h
        rw [if_neg c] at h
        obtain ⟨i, h1, h2⟩ := ih (by omega)
        exact ⟨i, by omega, h2⟩
  intro n
  induction n with
  | zero => intro h; simp [oN] at h
  | succ n ih =>
    intro h
    simp only [oN] at h
    by_cases c : f n = true
    · rw [if_pos c] at h
      obtain ⟨i, h1, h2⟩ := one' n (by omega)
      exact ⟨i, n, h1, by omega, h2, c⟩
    · rw [if_neg c] at h
      obtain ⟨i, j, h1, h2, h3, h4⟩ := ih (by omega)
      exact ⟨i, j, h1, by omega, h3, h4⟩
theorem ones_le (s x : Nat) : ones13 (s &&& x) ≤ ones13 s := by
  rw [ones_o, ones_o]
  exact oN_mono 13 (fun k _ h => by rw [Nat.testBit_and] at h; exact (Bool.and_eq_true_iff.mp h).1)
theorem ones_lt {s x : Nat} (hs : s < 8192) (hx : s &&& x ≠ s) : ones13 (s &&& x) < ones13 s := by
  rw [ones_o, ones_o]
  have : ∃ i, i < 13 ∧ (s &&& x).testBit i = false ∧ s.testBit i = true := by
    refine Classical.byContradiction fun q => hx (Nat.eq_of_testBit_eq fun i => ?_)
    by_cases c : i < 13
    · cases h1 : s.testBit i with
      | false => rw [Nat.testBit_and, h1, Bool.false_and]
      | true =>
        cases h2 : (s &&& x).testBit i with
        | true => rfl
        | false => exact absurd ⟨i, c, h2, h1⟩ q
    · have hb : (2 : Nat) ^ 13 ≤ 2 ^ i := Nat.pow_le_pow_right (by decide) (by omega)
      have z : s.testBit i = false := Nat.testBit_lt_two_pow (Nat.lt_of_lt_of_le (show s < 2 ^ 13 from hs) hb)
      rw [Nat.testBit_and, z, Bool.false_and]
  obtain ⟨i, h1, h2, h3⟩ := this
  exact oN_lt 13 h1 (fun k _ h => by rw [Nat.testBit_and] at h; exact (Bool.and_eq_true_iff.mp h).1) h2 h3
theorem and_lt {s x : Nat} (hs : s < 8192) : s &&& x < 8192 := Nat.lt_of_le_of_lt Nat.and_le_left hs
theorem foldmin (f : Nat → Nat) : ∀ (L : List Nat) (c m : Nat), L.foldl (fun m att => if 1 + f att < m then 1 + f att else m) c ≤ m ↔ (c ≤ m ∨ ∃ a, a ∈ L ∧ 1 + f a ≤ m) := by
  intro L
  induction L with
  | nil => intro c m; simp
  | cons x t ih =>
    intro c m
    rw [List.foldl_cons, ih]
    constructor
    · rintro (h | ⟨a, h1, h2⟩)
      · by_cases q : 1 + f x < c
        · rw [if_pos q] at h; exact Or.inr ⟨x, by simp, h⟩
        · rw [if_neg q] at h; exact Or.inl h
      · exact Or.inr ⟨a, by simp [h1], h2⟩
    · rintro (h | ⟨a, h1, h2⟩)
      · refine Or.inl ?_
        by_cases q : 1 + f x < c
        · rw [if_pos q]; omega
        · rw [if_neg q]; exact h
      · rcases List.mem_cons.mp h1 with e | e
        · subst e
          refine Or.inl ?_
          by_cases q : 1 + f a < c
          · rw [if_pos q]; exact h2
          · rw [if_neg q]; omega
        · exact Or.inr ⟨a, e, h2⟩
theorem r4 : List.range 4 = [0, 1, 2, 3] := by decide
theorem xwb_le (p : Nat → Nat) (s att m : Nat) (hm : m < 99) : xwb p s att ≤ m ↔ ∀ q, q < 4 → (s &&& xsetOf (4 * att + q)) ≠ s ∧ p (s &&& xsetOf (4 * att + q)) ≤ m := by
  unfold xwb
  rw [r4]
  simp only [List.any_cons, List.any_nil, List.foldl_cons, List.foldl_nil, Bool.or_false, Bool.or_eq_true, beq_iff_eq]
  constructor
  · intro h q hq
    by_cases c : s &&& xsetOf (4 * att + 0) = s ∨ s &&& xsetOf (4 * att + 1) = s ∨ s &&& xsetOf (4 * att + 2) = s ∨ s &&& xsetOf (4 * att + 3) = s
    · rw [if_pos c] at h; omega
    · rw [if_neg c] at h
      simp only [not_or] at c
      obtain ⟨c0, c1, c2, c3⟩ := c
      have hb : p (s &&& xsetOf (4 * att + 0)) ≤ m ∧ p (s &&& xsetOf (4 * att + 1)) ≤ m ∧ p (s &&& xsetOf (4 * att + 2)) ≤ m ∧ p (s &&& xsetOf (4 * att + 3)) ≤ m := by
        generalize p (s &&& xsetOf (4 * att + 0)) = y0 at h ⊢
        generalize p (s &&& xsetOf (4 * att + 1)) = y1 at h ⊢
        generalize p (s &&& xsetOf (4 * att + 2)) = y2 at h ⊢
        generalize p (s &&& xsetOf (4 * att + 3)) = y3 at h ⊢
        refine ⟨?_, ?_, ?_, ?_⟩ <;> (repeat' split at h) <;> omega
      rcases (show q = 0 ∨ q = 1 ∨ q = 2 ∨ q = 3 by omega) with rfl | rfl | rfl | rfl
      · exact ⟨c0, hb.1⟩
      · exact ⟨c1, hb.2.1⟩
      · exact ⟨c2, hb.2.2.1⟩
      · exact ⟨c3, hb.2.2.2⟩
  · intro h
    have h0 := h 0 (by omega)
    have h1 := h 1 (by omega)
    have h2 := h 2 (by omega)
    have h3 := h 3 (by omega)
    rw [if_neg (by
      rintro (q | q | q | q)
      · exact h0.1 q
      · exact h1.1 q
      · exact h2.1 q
      · exact h3.1 q)]
    have g0 := h0.2
    have g1 := h1.2
    have g2 := h2.2
    have g3 := h3.2
    generalize p (s &&& xsetOf (4 * att + 0)) = y0 at *
    generalize p (s &&& xsetOf (4 * att + 1)) = y1 at *
    generalize p (s &&& xsetOf (4 * att + 2)) = y2 at *
    generalize p (s &&& xsetOf (4 * att + 3)) = y3 at *
    (repeat' split) <;> omega
theorem xwb_ext {p p' : Nat → Nat} {s att : Nat} (h : ∀ q, q < 4 → (s &&& xsetOf (4 * att + q)) ≠ s → p (s &&& xsetOf (4 * att + q)) = p' (s &&& xsetOf (4 * att + q))) : xwb p s att = xwb p' s att := by
  unfold xwb
  rw [r4]
  simp only [List.any_cons, List.any_nil, List.foldl_cons, List.foldl_nil, Bool.or_false, Bool.or_eq_true, beq_iff_eq]
  by_cases c : s &&& xsetOf (4 * att + 0) = s ∨ s &&& xsetOf (4 * att + 1) = s ∨ s &&& xsetOf (4 * att + 2) = s ∨ s &&& xsetOf (4 * att + 3) = s
  · rw [if_pos c, if_pos c]
  · rw [if_neg c, if_neg c]
    simp only [not_or] at c
    rw [h 0 (by omega) c.1, h 1 (by omega) c.2.1, h 2 (by omega) c.2.2.1, h 3 (by omega) c.2.2.2]
theorem foldmin_ext {f g : Nat → Nat} : ∀ (L : List Nat) (c : Nat), (∀ a, a ∈ L → f a = g a) → L.foldl (fun m att => if 1 + f att < m then 1 + f att else m) c = L.foldl (fun m att => if 1 + g att < m then 1 + g att else m) c := by
  intro L
  induction L with
  | nil => intro c _; rfl
  | cons x t ih =>
    intro c h
    rw [List.foldl_cons, List.foldl_cons, h x (by simp)]
    exact ih _ (fun a ha => h a (by simp [ha]))
theorem ptF_st : ∀ n m s, s < 8192 → ones13 s ≤ n → ones13 s ≤ m → ptF n s = ptF m s := by
  intro n
  induction n with
  | zero =>
    intro m s hs h1 h2
    cases m with
    | zero => rfl
    | succ m =>
      simp only [ptF]
      rw [if_pos (by omega)]
  | succ n ih =>
    intro m s hs h1 h2
    by_cases c : ones13 s < 2
    · cases m with
      | zero => simp only [ptF]; rw [if_pos c]
      | succ m => simp only [ptF]; rw [if_pos c, if_pos c]
    · cases m with
      | zero => omega
      | succ m =>
        simp only [ptF]
        rw [if_neg c, if_neg c]
        apply foldmin_ext
        intro a _
        apply xwb_ext
        intro q _ hx
        have := ones_lt hs hx
        exact ih m _ (and_lt hs) (by omega) (by omega)
theorem ones_13 (s : Nat) : ones13 s ≤ 13 := by
  rw [ones_o]
  have : ∀ n, oN s.testBit n ≤ n := by
    intro n
    induction n with
    | zero => exact Nat.le_refl _
    | succ n ih =>
      simp only [oN]
      by_cases c : s.testBit n = true
      · rw [if_pos c]; omega
      · rw [if_neg c]; omega
  exact this 13
theorem pt_small {s : Nat} (h : ones13 s < 2) : pt s = 0 := by
  unfold pt
  simp only [ptF]
  rw [if_pos h]
/-- the table's own rule -/
theorem pt_rec {s : Nat} (hs : s < 8192) (h : ¬ ones13 s < 2) : pt s = (List.range 26).foldl (fun m att => if 1 + xwb pt s att < m then 1 + xwb pt s att else m) 99 := by
  have e : pt s = (List.range 26).foldl (fun m att => if 1 + xwb (ptF 13) s att < m then 1 + xwb (ptF 13) s att else m) 99 := by
    unfold pt
    conv => lhs; unfold ptF
    rw [if_neg h]
  rw [e]
  apply foldmin_ext
  intro a _
  apply xwb_ext
  intro q _ _
  have := ones_13 (s &&& xsetOf (4 * a + q))
  exact ptF_st 13 14 _ (and_lt hs) this (by omega)
theorem set1 : ∀ a, a < 26 → xsetOf (4 * a + 1) = 2048 ∧ xsetOf (4 * a + 2) = 4096 := by decide +kernel
theorem ones_1 : ∀ x, x = 2048 ∨ x = 4096 → ones13 x = 1 := by
  rintro x (rfl | rfl) <;> decide +kernel
theorem part12 {s a : Nat} (ha : a < 26) : ones13 (s &&& xsetOf (4 * a + 1)) < 2 ∧ ones13 (s &&& xsetOf (4 * a + 2)) < 2 := by
  obtain ⟨e1, e2⟩ := set1 a ha
  rw [e1, e2, Nat.and_comm s 2048, Nat.and_comm s 4096]
  have h1 := ones_le 2048 s
  have h2 := ones_le 4096 s
  rw [ones_1 2048 (Or.inl rfl)] at h1
  rw [ones_1 4096 (Or.inr rfl)] at h2
  omega
/-- sorted by so many tries more: a try that parts, and both parts sorted -/
theorem pt_le {s m : Nat} (hs : s < 8192) (h : ¬ ones13 s < 2) (hm : m ≤ 90) : pt s ≤ m + 1 ↔ ∃ a, a < 26 ∧ ((s &&& xsetOf (4 * a)) ≠ s ∧ pt (s &&& xsetOf (4 * a)) ≤ m) ∧ (s &&& xsetOf (4 * a + 3)) ≠ s ∧ pt (s &&& xsetOf (4 * a + 3)) ≤ m := by
  rw [pt_rec hs h, foldmin]
  constructor
  · rintro (q | ⟨a, h1, h2⟩)
    · omega
    · have w := (xwb_le pt s a m (by omega)).mp (by omega)
      exact ⟨a, List.mem_range.mp h1, w 0 (by omega), w 3 (by omega)⟩
  · rintro ⟨a, h1, h2, h3⟩
    refine Or.inr ⟨a, List.mem_range.mpr h1, ?_⟩
    have := (xwb_le pt s a m (by omega)).mpr (fun q hq => by
      obtain ⟨p1, p2⟩ := part12 (s := s) h1
      rcases (show q = 0 ∨ q = 1 ∨ q = 2 ∨ q = 3 by omega) with rfl | rfl | rfl | rfl
      · exact h2
      · exact ⟨fun e => by rw [e] at p1; exact h p1, by rw [pt_small p1]; omega⟩
      · exact ⟨fun e => by rw [e] at p2; exact h p2, by rw [pt_small p2]; omega⟩
      · exact h3)
    omega
theorem cell_t : ∀ a, a < 26 → ∀ k, k < 13 → ((xsetOf (4 * a)).testBit k || (xsetOf (4 * a + 3)).testBit k) = (2047 : Nat).testBit k ∧ ((xsetOf (4 * a)).testBit k && (xsetOf (4 * a + 3)).testBit k) = false := by decide +kernel
theorem ones_parts {s a : Nat} (ha : a < 26) : ones13 (s &&& 2047) = ones13 (s &&& xsetOf (4 * a)) + ones13 (s &&& xsetOf (4 * a + 3)) := by
  rw [ones_o, ones_o, ones_o]
  apply oN_sum
  intro k hk
  obtain ⟨h1, h2⟩ := cell_t a ha k hk
  rw [Nat.testBit_and, Nat.testBit_and, Nat.testBit_and, ← h1]
  cases s.testBit k <;> simp_all
theorem and47 {s a : Nat} (ha : a < 26) : ones13 (s &&& xsetOf (4 * a)) = ones13 (s &&& xsetOf (4 * a) &&& 2047) ∧ ones13 (s &&& xsetOf (4 * a + 3)) = ones13 (s &&& xsetOf (4 * a + 3) &&& 2047) := by
  constructor
  · rw [ones_o, ones_o]
    apply oN_ext
    intro k hk
    obtain ⟨h1, h2⟩ := cell_t a ha k hk
    rw [Nat.testBit_and, Nat.testBit_and, Nat.testBit_and, ← h1]
    cases s.testBit k <;> cases (xsetOf (4 * a)).testBit k <;> simp
  · rw [ones_o, ones_o]
    apply oN_ext
    intro k hk
    obtain ⟨h1, h2⟩ := cell_t a ha k hk
    rw [Nat.testBit_and, Nat.testBit_and, Nat.testBit_and, ← h1]
    cases s.testBit k <;> cases (xsetOf (4 * a + 3)).testBit k <;> simp
/-- so many tries can't tell more apart -/
theorem pt_info : ∀ m s, s < 8192 → m ≤ 90 → pt s ≤ m → ones13 (s &&& 2047) ≤ 2 ^ m := by
  intro m
  induction m with
  | zero =>
    intro s hs hm h
    by_cases c : ones13 s < 2
    · have := ones_le s 2047
      simp
      omega
    · rw [pt_rec hs c, foldmin] at h
      rcases h with h | ⟨a, -, h⟩ <;> omega
  | succ m ih =>
    intro s hs hm h
    have hp : 1 ≤ 2 ^ m := Nat.one_le_two_pow
    rw [Nat.pow_succ]
    by_cases c : ones13 s < 2
    · have := ones_le s 2047
      omega
    · obtain ⟨a, h1, h2, h3⟩ := (pt_le hs c (by omega)).mp h
      have i1 := ih _ (and_lt hs) (by omega) h2.2
      have i2 := ih _ (and_lt hs) (by omega) h3.2
      obtain ⟨e1, e2⟩ := and47 (s := s) h1
      have := ones_parts (s := s) h1
      omega
theorem sep_t : ∀ i, i < 13 → ∀ j, j < 13 → i ≠ j → ∃ a, a < 26 ∧ came i a ≠ came j a := by decide +kernel
theorem set_tb {a q k : Nat} (hq : q < 4) (hk : k < 13) : (xsetOf (4 * a + q)).testBit k = (came k a == q) := by
  rw [set_b, bN_tb, show (4 * a + q) / 4 = a by omega, show (4 * a + q) % 4 = q by omega]
  simp [hk]
theorem pt_bound : ∀ m s, s < 8192 → m ≤ 90 → ones13 s ≤ m + 1 → pt s ≤ m := by
  intro m
  induction m with
  | zero =>
    intro s hs _ h
    rw [pt_small (by omega)]
    exact Nat.le_refl _
  | succ m ih =>
    intro s hs hm h
    by_cases c : ones13 s < 2
    · rw [pt_small c]; omega
    · have c2 := c
      rw [ones_o] at c2
      obtain ⟨i, j, h1, h2, h3, h4⟩ := oN_pair (f := s.testBit) 13 (by omega)
      obtain ⟨a, ha, hne⟩ := sep_t i (by omega) j h2 (by omega)
      have np : ∀ q, q < 4 → (s &&& xsetOf (4 * a + q)) ≠ s := by
        intro q hq e
        have t1 : (s &&& xsetOf (4 * a + q)).testBit i = true := by rw [e]; exact h3
        have t2 : (s &&& xsetOf (4 * a + q)).testBit j = true := by rw [e]; exact h4
        rw [Nat.testBit_and, set_tb hq (by omega)] at t1
        rw [Nat.testBit_and, set_tb hq h2] at t2
        have u1 := beq_iff_eq.mp (Bool.and_eq_true_iff.mp t1).2
        have u2 := beq_iff_eq.mp (Bool.and_eq_true_iff.mp t2).2
        exact hne (u1.trans u2.symm)
      refine (pt_le hs c (by omega)).mpr ⟨a, ha, ⟨np 0 (by omega), ?_⟩, np 3 (by omega), ?_⟩
      · have := ones_lt hs (np 0 (by omega))
        exact ih _ (and_lt hs) (by omega) (by show ones13 (s &&& xsetOf (4 * a + 0)) ≤ _; omega)
      · have := ones_lt hs (np 3 (by omega))
        exact ih _ (and_lt hs) (by omega) (by omega)
theorem pt_12 {s : Nat} (hs : s < 8192) : pt s ≤ 12 := pt_bound 12 s hs (by omega) (ones_13 s)
theorem pt_pos {s : Nat} (hs : s < 8192) (h : ¬ ones13 s < 2) : 1 ≤ pt s := by
  refine Classical.byContradiction fun q => ?_
  have e : pt s ≤ 0 := by omega
  rw [pt_rec hs h, foldmin] at e
  rcases e with e | ⟨a, -, e⟩ <;> omega
/-- a try may come first -/
def fst' (s m a : Nat) : Prop := pt (s &&& xsetOf (4 * a)) ≤ m ∧ pt (s &&& xsetOf (4 * a + 3)) ≤ m
theorem sorts_iff {s m : Nat} (hs : s < 8192) (h : ¬ ones13 s < 2) (hm : m ≤ 90) : pt s ≤ m + 1 ↔ ∃ a, a < 26 ∧ fst' s m a := by
  constructor
  · intro q
    obtain ⟨a, h1, h2, h3⟩ := (pt_le hs h hm).mp q
    exact ⟨a, h1, h2.2, h3.2⟩
  · rintro ⟨a, h1, h2, h3⟩
    by_cases c1 : (s &&& xsetOf (4 * a)) = s
    · rw [c1] at h2; omega
    · by_cases c2 : (s &&& xsetOf (4 * a + 3)) = s
      · rw [c2] at h3; omega
      · exact (pt_le hs h hm).mpr ⟨a, h1, ⟨c1, h2⟩, c2, h3⟩
theorem first_iff {s m a : Nat} (hs : s < 8192) (h : ¬ ones13 s < 2) (e : pt s = m + 1) (ha : a < 26) : fst' s m a ↔ 1 + xwb pt s a = pt s := by
  have h12 := pt_12 hs
  have low : pt s ≤ 1 + xwb pt s a := by
    have z := (foldmin (xwb pt s) (List.range 26) 99 (1 + xwb pt s a)).mpr (Or.inr ⟨a, List.mem_range.mpr ha, Nat.le_refl _⟩)
    rw [← pt_rec hs h] at z
    exact z
  constructor
  · rintro ⟨h2, h3⟩
    have c1 : (s &&& xsetOf (4 * a)) ≠ s := fun q => by rw [q] at h2; omega
    have c2 : (s &&& xsetOf (4 * a + 3)) ≠ s := fun q => by rw [q] at h3; omega
    have := (xwb_le pt s a m (by omega)).mpr (fun q hq => by
      obtain ⟨p1, p2⟩ := part12 (s := s) ha
      rcases (show q = 0 ∨ q = 1 ∨ q = 2 ∨ q = 3 by omega) with rfl | rfl | rfl | rfl
      · exact ⟨c1, h2⟩
      · exact ⟨fun e => by rw [e] at p1; exact h p1, by rw [pt_small p1]; omega⟩
      · exact ⟨fun e => by rw [e] at p2; exact h p2, by rw [pt_small p2]; omega⟩
      · exact ⟨c2, h3⟩)
    omega
  · intro q
    have w := (xwb_le pt s a m (by omega)).mp (by omega)
    exact ⟨(w 0 (by omega)).2, (w 3 (by omega)).2⟩
