abbrev xJ : Type := (Nat → Nat → Int32) → (Nat → Nat → Int64) → xRr → Prop
def xOpI (J : xJ) (F G : (Nat → Nat → Int32) → (Nat → Nat → Int64) → xRr → Option (Int32 × xSt)) : Prop := ∀ hi hl r, J hi hl r → ∃ (v : Int32) (s1 s2 : xSt), F hi hl r = some (v, s1) ∧ G s1.1 s1.2.1 s1.2.2 = some (v, s2) ∧ J s2.1 s2.2.1 s2.2.2
def xOpL (J : xJ) (F G : (Nat → Nat → Int32) → (Nat → Nat → Int64) → xRr → Option (Int64 × xSt)) : Prop := ∀ hi hl r, J hi hl r → ∃ (v : Int64) (s1 s2 : xSt), F hi hl r = some (v, s1) ∧ G s1.1 s1.2.1 s1.2.2 = some (v, s2) ∧ J s2.1 s2.2.1 s2.2.2
theorem xbI_eq {β : Type} {X : Option (Int32 × xSt)} {K : Int32 → (Nat → Nat → Int32) → (Nat → Nat → Int64) → xRr → Option β} {v : Int32} {s : xSt} (h : X = some (v, s)) : xbI X K = K v s.1 s.2.1 s.2.2 := by rw [h]; rfl
theorem xbL_eq {β : Type} {X : Option (Int64 × xSt)} {K : Int64 → (Nat → Nat → Int32) → (Nat → Nat → Int64) → xRr → Option β} {v : Int64} {s : xSt} (h : X = some (v, s)) : xbL X K = K v s.1 s.2.1 s.2.2 := by rw [h]; rfl
theorem xlk {i k L : Nat} (hL : L ≤ 3584) (h : i + k < L) : xok (nI i + nI k) L = true := by
  rw [nI_add]
  simp only [xok, Bool.and_eq_true, decide_eq_true_eq]
  rw [nI_toInt (by omega)]
  omega
section LOOP
variable {J : xJ} {z : xZ} {i : Nat} {hi : Nat → Nat → Int32} {hl : Nat → Nat → Int64} {r : xRr} {K : Int32 → (Nat → Nat → Int32) → (Nat → Nat → Int64) → xRr → Option (Int32 × xSt)}
theorem lc_172 (h7 : i + 7 ≤ z.1) (hz : z.1 ≤ 3584) (op : ∀ (a0 : Int32) (a1 : Int32), xOpI J (F_X11_bank a0 a1) (F_X12_bank a0 a1)) (hJ : J hi hl r) (hK : ∀ hi hl r, J hi hl r → ∃ st, K (nI i + 7) hi hl r = some (1, st)) : ∃ st, F_L_law_172 z K (nI i) hi hl r = some (1, st) := by
  have g1 : xok (nI i + (1 : Int32)) z.1 = true := xlk hz (k := 1) (by omega)
  have g2 : xok (nI i + (2 : Int32)) z.1 = true := xlk hz (k := 2) (by omega)
  obtain ⟨v, s1, s2, e1, e2, hJ2⟩ := op (z.2 (Int32.toNatClampNeg ((nI i) + (1 : Int32)))) (z.2 (Int32.toNatClampNeg ((nI i) + (2 : Int32)))) hi hl r hJ
  unfold F_L_law_172
  rw [if_pos g1, if_pos g2]
  rw [xbI_eq e1, xbI_eq e2, if_pos rfl]
  exact hK _ _ _ hJ2
theorem lc_205 (h7 : i + 7 ≤ z.1) (hz : z.1 ≤ 3584) (op : ∀ (a0 : Int32) (a1 : Int32) (a2 : Int32) (a3 : Int32) (a4 : Int32), xOpI J (F_X11_view a0 a1 a2 a3 a4) (F_X12_view a0 a1 a2 a3 a4)) (hJ : J hi hl r) (hK : ∀ hi hl r, J hi hl r → ∃ st, K (nI i + 7) hi hl r = some (1, st)) : ∃ st, F_L_law_205 z K (nI i) hi hl r = some (1, st) := by
  have g1 : xok (nI i + (1 : Int32)) z.1 = true := xlk hz (k := 1) (by omega)
  have g2 : xok (nI i + (2 : Int32)) z.1 = true := xlk hz (k := 2) (by omega)
  have g3 : xok (nI i + (3 : Int32)) z.1 = true := xlk hz (k := 3) (by omega)
  have g4 : xok (nI i + (4 : Int32)) z.1 = true := xlk hz (k := 4) (by omega)
  have g5 : xok (nI i + (5 : Int32)) z.1 = true := xlk hz (k := 5) (by omega)
  obtain ⟨v, s1, s2, e1, e2, hJ2⟩ := op (z.2 (Int32.toNatClampNeg ((nI i) + (1 : Int32)))) (z.2 (Int32.toNatClampNeg ((nI i) + (2 : Int32)))) (z.2 (Int32.toNatClampNeg ((nI i) + (3 : Int32)))) (z.2 (Int32.toNatClampNeg ((nI i) + (4 : Int32)))) (z.2 (Int32.toNatClampNeg ((nI i) + (5 : Int32)))) hi hl r hJ
  unfold F_L_law_205
  rw [if_pos g1, if_pos g2, if_pos g3, if_pos g4, if_pos g5]
  rw [xbI_eq e1, xbI_eq e2, if_pos rfl]
  exact hK _ _ _ hJ2
theorem lc_268 (h7 : i + 7 ≤ z.1) (hz : z.1 ≤ 3584) (op : xOpI J (F_X11_clear) (F_X12_clear)) (hJ : J hi hl r) (hK : ∀ hi hl r, J hi hl r → ∃ st, K (nI i + 7) hi hl r = some (1, st)) : ∃ st, F_L_law_268 z K (nI i) hi hl r = some (1, st) := by
  have g0 := h7
  obtain ⟨v, s1, s2, e1, e2, hJ2⟩ := op hi hl r hJ
  unfold F_L_law_268
  rw [xbI_eq e1, xbI_eq e2, if_pos rfl]
  exact hK _ _ _ hJ2
theorem lc_281 (h7 : i + 7 ≤ z.1) (hz : z.1 ≤ 3584) (op : ∀ (a0 : Int32) (a1 : Int32), xOpI J (F_X11_reads a0 a1) (F_X12_reads a0 a1)) (hJ : J hi hl r) (hK : ∀ hi hl r, J hi hl r → ∃ st, K (nI i + 7) hi hl r = some (1, st)) : ∃ st, F_L_law_281 z K (nI i) hi hl r = some (1, st) := by
  have g1 : xok (nI i + (1 : Int32)) z.1 = true := xlk hz (k := 1) (by omega)
  have g2 : xok (nI i + (2 : Int32)) z.1 = true := xlk hz (k := 2) (by omega)
  obtain ⟨v, s1, s2, e1, e2, hJ2⟩ := op (z.2 (Int32.toNatClampNeg ((nI i) + (1 : Int32)))) (z.2 (Int32.toNatClampNeg ((nI i) + (2 : Int32)))) hi hl r hJ
  unfold F_L_law_281
  rw [if_pos g1, if_pos g2]
  rw [xbI_eq e1, xbI_eq e2, if_pos rfl]
  exact hK _ _ _ hJ2
theorem lc_314 (h7 : i + 7 ≤ z.1) (hz : z.1 ≤ 3584) (op : ∀ (a0 : Int32) (a1 : Int32), xOpI J (F_X11_looks a0 a1) (F_X12_looks a0 a1)) (hJ : J hi hl r) (hK : ∀ hi hl r, J hi hl r → ∃ st, K (nI i + 7) hi hl r = some (1, st)) : ∃ st, F_L_law_314 z K (nI i) hi hl r = some (1, st) := by
  have g1 : xok (nI i + (1 : Int32)) z.1 = true := xlk hz (k := 1) (by omega)
  have g2 : xok (nI i + (2 : Int32)) z.1 = true := xlk hz (k := 2) (by omega)
  obtain ⟨v, s1, s2, e1, e2, hJ2⟩ := op (z.2 (Int32.toNatClampNeg ((nI i) + (1 : Int32)))) (z.2 (Int32.toNatClampNeg ((nI i) + (2 : Int32)))) hi hl r hJ
  unfold F_L_law_314
  rw [if_pos g1, if_pos g2]
  rw [xbI_eq e1, xbI_eq e2, if_pos rfl]
  exact hK _ _ _ hJ2
theorem lc_347 (h7 : i + 7 ≤ z.1) (hz : z.1 ≤ 3584) (op : xOpL J (F_X11_number) (F_X12_number)) (hJ : J hi hl r) (hK : ∀ hi hl r, J hi hl r → ∃ st, K (nI i + 7) hi hl r = some (1, st)) : ∃ st, F_L_law_347 z K (nI i) hi hl r = some (1, st) := by
  have g0 := h7
  obtain ⟨v, s1, s2, e1, e2, hJ2⟩ := op hi hl r hJ
  unfold F_L_law_347
  rw [xbL_eq e1, xbL_eq e2, if_pos (by simp [lg_cmp])]
  exact hK _ _ _ hJ2
theorem lc_361 (h7 : i + 7 ≤ z.1) (hz : z.1 ≤ 3584) (op : xOpI J (F_X11_kind) (F_X12_kind)) (hJ : J hi hl r) (hK : ∀ hi hl r, J hi hl r → ∃ st, K (nI i + 7) hi hl r = some (1, st)) : ∃ st, F_L_law_361 z K (nI i) hi hl r = some (1, st) := by
  have g0 := h7
  obtain ⟨v, s1, s2, e1, e2, hJ2⟩ := op hi hl r hJ
  unfold F_L_law_361
  rw [xbI_eq e1, xbI_eq e2, if_pos rfl]
  exact hK _ _ _ hJ2
theorem lc_374 (h7 : i + 7 ≤ z.1) (hz : z.1 ≤ 3584) (op : ∀ (a0 : Int32) (a1 : Int32) (a2 : Int32) (a3 : Int32) (a4 : Int64), xOpI J (F_X11_writes a0 a1 a2 a3 a4) (F_X12_writes a0 a1 a2 a3 a4)) (hJ : J hi hl r) (hK : ∀ hi hl r, J hi hl r → ∃ st, K (nI i + 7) hi hl r = some (1, st)) : ∃ st, F_L_law_374 z K (nI i) hi hl r = some (1, st) := by
  have g1 : xok (nI i + (1 : Int32)) z.1 = true := xlk hz (k := 1) (by omega)
  have g2 : xok (nI i + (2 : Int32)) z.1 = true := xlk hz (k := 2) (by omega)
  have g3 : xok (nI i + (3 : Int32)) z.1 = true := xlk hz (k := 3) (by omega)
  have g4 : xok (nI i + (4 : Int32)) z.1 = true := xlk hz (k := 4) (by omega)
  have g5 : xok (nI i + (5 : Int32)) z.1 = true := xlk hz (k := 5) (by omega)
  have g6 : xok (nI i + (6 : Int32)) z.1 = true := xlk hz (k := 6) (by omega)
  obtain ⟨v, s1, s2, e1, e2, hJ2⟩ := op (z.2 (Int32.toNatClampNeg ((nI i) + (1 : Int32)))) (z.2 (Int32.toNatClampNeg ((nI i) + (2 : Int32)))) (z.2 (Int32.toNatClampNeg ((nI i) + (3 : Int32)))) (z.2 (Int32.toNatClampNeg ((nI i) + (4 : Int32)))) (((Int32.toInt64 (z.2 (Int32.toNatClampNeg ((nI i) + (5 : Int32))))) <<< ((Int32.toInt64 (32 : Int32)) &&& 63)) ||| ((Int32.toInt64 (z.2 (Int32.toNatClampNeg ((nI i) + (6 : Int32))))) &&& (4294967295 : Int64))) hi hl r hJ
  unfold F_L_law_374
  rw [if_pos g1, if_pos g2, if_pos g3, if_pos g4, if_pos g5, if_pos g6]
  rw [xbI_eq e1, xbI_eq e2, if_pos rfl]
  exact hK _ _ _ hJ2
theorem lc_469 (h7 : i + 7 ≤ z.1) (hz : z.1 ≤ 3584) (op : ∀ (a0 : Int32) (a1 : Int32) (a2 : Int32) (a3 : Int32) (a4 : Int32), xOpI J (F_X11_does a0 a1 a2 a3 a4) (F_X12_does a0 a1 a2 a3 a4)) (hJ : J hi hl r) (hK : ∀ hi hl r, J hi hl r → ∃ st, K (nI i + 7) hi hl r = some (1, st)) : ∃ st, F_L_law_469 z K (nI i) hi hl r = some (1, st) := by
  have g1 : xok (nI i + (1 : Int32)) z.1 = true := xlk hz (k := 1) (by omega)
  have g2 : xok (nI i + (2 : Int32)) z.1 = true := xlk hz (k := 2) (by omega)
  have g3 : xok (nI i + (3 : Int32)) z.1 = true := xlk hz (k := 3) (by omega)
  have g4 : xok (nI i + (4 : Int32)) z.1 = true := xlk hz (k := 4) (by omega)
  have g5 : xok (nI i + (5 : Int32)) z.1 = true := xlk hz (k := 5) (by omega)
  obtain ⟨v, s1, s2, e1, e2, hJ2⟩ := op (z.2 (Int32.toNatClampNeg ((nI i) + (1 : Int32)))) (z.2 (Int32.toNatClampNeg ((nI i) + (2 : Int32)))) (z.2 (Int32.toNatClampNeg ((nI i) + (3 : Int32)))) (z.2 (Int32.toNatClampNeg ((nI i) + (4 : Int32)))) (z.2 (Int32.toNatClampNeg ((nI i) + (5 : Int32)))) hi hl r hJ
  unfold F_L_law_469
  rw [if_pos g1, if_pos g2, if_pos g3, if_pos g4, if_pos g5]
  rw [xbI_eq e1, xbI_eq e2, if_pos rfl]
  exact hK _ _ _ hJ2
theorem lc_532 (h7 : i + 7 ≤ z.1) (hz : z.1 ≤ 3584) (op : ∀ (a0 : Int32) (a1 : Int32) (a2 : Int32), xOpI J (F_X11_copies a0 a1 a2) (F_X12_copies a0 a1 a2)) (hJ : J hi hl r) (hK : ∀ hi hl r, J hi hl r → ∃ st, K (nI i + 7) hi hl r = some (1, st)) : ∃ st, F_L_law_532 z K (nI i) hi hl r = some (1, st) := by
  have g1 : xok (nI i + (1 : Int32)) z.1 = true := xlk hz (k := 1) (by omega)
  have g2 : xok (nI i + (2 : Int32)) z.1 = true := xlk hz (k := 2) (by omega)
  have g3 : xok (nI i + (3 : Int32)) z.1 = true := xlk hz (k := 3) (by omega)
  obtain ⟨v, s1, s2, e1, e2, hJ2⟩ := op (z.2 (Int32.toNatClampNeg ((nI i) + (1 : Int32)))) (z.2 (Int32.toNatClampNeg ((nI i) + (2 : Int32)))) (z.2 (Int32.toNatClampNeg ((nI i) + (3 : Int32)))) hi hl r hJ
  unfold F_L_law_532
  rw [if_pos g1, if_pos g2, if_pos g3]
  rw [xbI_eq e1, xbI_eq e2, if_pos rfl]
  exact hK _ _ _ hJ2
theorem lc_575 (h7 : i + 7 ≤ z.1) (hz : z.1 ≤ 3584) (op : xOpI J (F_X11_undo) (F_X12_undo)) (hJ : J hi hl r) (hK : ∀ hi hl r, J hi hl r → ∃ st, K (nI i + 7) hi hl r = some (1, st)) : ∃ st, F_L_law_575 z K (nI i) hi hl r = some (1, st) := by
  have g0 := h7
  obtain ⟨v, s1, s2, e1, e2, hJ2⟩ := op hi hl r hJ
  unfold F_L_law_575
  rw [xbI_eq e1, xbI_eq e2, if_pos rfl]
  exact hK _ _ _ hJ2
theorem lc_588 (h7 : i + 7 ≤ z.1) (hz : z.1 ≤ 3584) (op : ∀ (a0 : Int32) (a1 : Int32) (a2 : Int32) (a3 : Int32) (a4 : Int32), xOpI J (F_X11_plans a0 a1 a2 a3 a4) (F_X12_plans a0 a1 a2 a3 a4)) (hJ : J hi hl r) (hK : ∀ hi hl r, J hi hl r → ∃ st, K (nI i + 7) hi hl r = some (1, st)) : ∃ st, F_L_law_588 z K (nI i) hi hl r = some (1, st) := by
  have g1 : xok (nI i + (1 : Int32)) z.1 = true := xlk hz (k := 1) (by omega)
  have g2 : xok (nI i + (2 : Int32)) z.1 = true := xlk hz (k := 2) (by omega)
  have g3 : xok (nI i + (3 : Int32)) z.1 = true := xlk hz (k := 3) (by omega)
  have g4 : xok (nI i + (4 : Int32)) z.1 = true := xlk hz (k := 4) (by omega)
  have g5 : xok (nI i + (5 : Int32)) z.1 = true := xlk hz (k := 5) (by omega)
  obtain ⟨v, s1, s2, e1, e2, hJ2⟩ := op (z.2 (Int32.toNatClampNeg ((nI i) + (1 : Int32)))) (z.2 (Int32.toNatClampNeg ((nI i) + (2 : Int32)))) (z.2 (Int32.toNatClampNeg ((nI i) + (3 : Int32)))) (z.2 (Int32.toNatClampNeg ((nI i) + (4 : Int32)))) (z.2 (Int32.toNatClampNeg ((nI i) + (5 : Int32)))) hi hl r hJ
  unfold F_L_law_588
  rw [if_pos g1, if_pos g2, if_pos g3, if_pos g4, if_pos g5]
  rw [xbI_eq e1, xbI_eq e2, if_pos rfl]
  exact hK _ _ _ hJ2
theorem lc_651 (h7 : i + 7 ≤ z.1) (hz : z.1 ≤ 3584) (op : xOpI J (F_X11_drops) (F_X12_drops)) (hJ : J hi hl r) (hK : ∀ hi hl r, J hi hl r → ∃ st, K (nI i + 7) hi hl r = some (1, st)) : ∃ st, F_L_law_651 z K (nI i) hi hl r = some (1, st) := by
  have g0 := h7
  obtain ⟨v, s1, s2, e1, e2, hJ2⟩ := op hi hl r hJ
  unfold F_L_law_651
  rw [xbI_eq e1, xbI_eq e2, if_pos rfl]
  exact hK _ _ _ hJ2
theorem lc_664 (h7 : i + 7 ≤ z.1) (hz : z.1 ≤ 3584) (op : ∀ (a0 : Int32) (a1 : Int32), xOpI J (F_X11_modes a0 a1) (F_X12_modes a0 a1)) (hJ : J hi hl r) (hK : ∀ hi hl r, J hi hl r → ∃ st, K (nI i + 7) hi hl r = some (1, st)) : ∃ st, F_L_law_664 z K (nI i) hi hl r = some (1, st) := by
  have g1 : xok (nI i + (1 : Int32)) z.1 = true := xlk hz (k := 1) (by omega)
  have g2 : xok (nI i + (2 : Int32)) z.1 = true := xlk hz (k := 2) (by omega)
  obtain ⟨v, s1, s2, e1, e2, hJ2⟩ := op (z.2 (Int32.toNatClampNeg ((nI i) + (1 : Int32)))) (z.2 (Int32.toNatClampNeg ((nI i) + (2 : Int32)))) hi hl r hJ
  unfold F_L_law_664
  rw [if_pos g1, if_pos g2]
  rw [xbI_eq e1, xbI_eq e2, if_pos rfl]
  exact hK _ _ _ hJ2
theorem lc_697 (h7 : i + 7 ≤ z.1) (hz : z.1 ≤ 3584) (op : xOpI J (F_X11_runs) (F_X12_runs)) (hJ : J hi hl r) (hK : ∀ hi hl r, J hi hl r → ∃ st, K (nI i + 7) hi hl r = some (1, st)) : ∃ st, F_L_law_697 z K (nI i) hi hl r = some (1, st) := by
  have g0 := h7
  obtain ⟨v, s1, s2, e1, e2, hJ2⟩ := op hi hl r hJ
  unfold F_L_law_697
  rw [xbI_eq e1, xbI_eq e2, if_pos rfl]
  exact hK _ _ _ hJ2
theorem lc_710 (h7 : i + 7 ≤ z.1) (hz : z.1 ≤ 3584) (op : ∀ (a0 : Int32) (a1 : Int32), xOpI J (F_X11_line a0 a1) (F_X12_line a0 a1)) (hJ : J hi hl r) (hK : ∀ hi hl r, J hi hl r → ∃ st, K (nI i + 7) hi hl r = some (1, st)) : ∃ st, F_L_law_710 z K (nI i) hi hl r = some (1, st) := by
  have g1 : xok (nI i + (1 : Int32)) z.1 = true := xlk hz (k := 1) (by omega)
  have g2 : xok (nI i + (2 : Int32)) z.1 = true := xlk hz (k := 2) (by omega)
  obtain ⟨v, s1, s2, e1, e2, hJ2⟩ := op (z.2 (Int32.toNatClampNeg ((nI i) + (1 : Int32)))) (z.2 (Int32.toNatClampNeg ((nI i) + (2 : Int32)))) hi hl r hJ
  unfold F_L_law_710
  rw [if_pos g1, if_pos g2]
  rw [xbI_eq e1, xbI_eq e2, if_pos rfl]
  exact hK _ _ _ hJ2
theorem lc_743 (h7 : i + 7 ≤ z.1) (hz : z.1 ≤ 3584) (op : ∀ (a0 : Int32), xOpI J (F_X11_met a0) (F_X12_met a0)) (hJ : J hi hl r) (hK : ∀ hi hl r, J hi hl r → ∃ st, K (nI i + 7) hi hl r = some (1, st)) : ∃ st, F_L_law_743 z K (nI i) hi hl r = some (1, st) := by
  have g1 : xok (nI i + (1 : Int32)) z.1 = true := xlk hz (k := 1) (by omega)
  obtain ⟨v, s1, s2, e1, e2, hJ2⟩ := op (z.2 (Int32.toNatClampNeg ((nI i) + (1 : Int32)))) hi hl r hJ
  unfold F_L_law_743
  rw [if_pos g1]
  rw [xbI_eq e1, xbI_eq e2, if_pos rfl]
  exact hK _ _ _ hJ2
theorem lc_766 (h7 : i + 7 ≤ z.1) (hz : z.1 ≤ 3584) (op : ∀ (a0 : Int32), xOpI J (F_X11_forecast a0) (F_X12_forecast a0)) (hJ : J hi hl r) (hK : ∀ hi hl r, J hi hl r → ∃ st, K (nI i + 7) hi hl r = some (1, st)) : ∃ st, F_L_law_766 z K (nI i) hi hl r = some (1, st) := by
  have g1 : xok (nI i + (1 : Int32)) z.1 = true := xlk hz (k := 1) (by omega)
  obtain ⟨v, s1, s2, e1, e2, hJ2⟩ := op (z.2 (Int32.toNatClampNeg ((nI i) + (1 : Int32)))) hi hl r hJ
  unfold F_L_law_766
  rw [if_pos g1]
  rw [xbI_eq e1, xbI_eq e2, if_pos rfl]
  exact hK _ _ _ hJ2
theorem lc_789 (h7 : i + 7 ≤ z.1) (hz : z.1 ≤ 3584) (op : ∀ (a0 : Int32), xOpI J (F_X11_wave a0) (F_X12_wave a0)) (hJ : J hi hl r) (hK : ∀ hi hl r, J hi hl r → ∃ st, K (nI i + 7) hi hl r = some (1, st)) : ∃ st, F_L_law_789 z K (nI i) hi hl r = some (1, st) := by
  have g1 : xok (nI i + (1 : Int32)) z.1 = true := xlk hz (k := 1) (by omega)
  obtain ⟨v, s1, s2, e1, e2, hJ2⟩ := op (z.2 (Int32.toNatClampNeg ((nI i) + (1 : Int32)))) hi hl r hJ
  unfold F_L_law_789
  rw [if_pos g1]
  rw [xbI_eq e1, xbI_eq e2, if_pos rfl]
  exact hK _ _ _ hJ2
theorem lc_812 (h7 : i + 7 ≤ z.1) (hz : z.1 ≤ 3584) (op : xOpI J (F_X11_reorders) (F_X12_reorders)) (hJ : J hi hl r) (hK : ∀ hi hl r, J hi hl r → ∃ st, K (nI i + 7) hi hl r = some (1, st)) : ∃ st, F_L_law_812 z K (nI i) hi hl r = some (1, st) := by
  have g0 := h7
  obtain ⟨v, s1, s2, e1, e2, hJ2⟩ := op hi hl r hJ
  unfold F_L_law_812
  rw [xbI_eq e1, xbI_eq e2, if_pos rfl]
  exact hK _ _ _ hJ2
theorem lc_825 (h7 : i + 7 ≤ z.1) (hz : z.1 ≤ 3584) (op : ∀ (a0 : Int32) (a1 : Int32), xOpI J (F_X11_joins a0 a1) (F_X12_joins a0 a1)) (hJ : J hi hl r) (hK : ∀ hi hl r, J hi hl r → ∃ st, K (nI i + 7) hi hl r = some (1, st)) : ∃ st, F_L_law_825 z K (nI i) hi hl r = some (1, st) := by
  have g1 : xok (nI i + (1 : Int32)) z.1 = true := xlk hz (k := 1) (by omega)
  have g2 : xok (nI i + (2 : Int32)) z.1 = true := xlk hz (k := 2) (by omega)
  obtain ⟨v, s1, s2, e1, e2, hJ2⟩ := op (z.2 (Int32.toNatClampNeg ((nI i) + (1 : Int32)))) (z.2 (Int32.toNatClampNeg ((nI i) + (2 : Int32)))) hi hl r hJ
  unfold F_L_law_825
  rw [if_pos g1, if_pos g2]
  rw [xbI_eq e1, xbI_eq e2, if_pos rfl]
  exact hK _ _ _ hJ2
theorem lc_858 (h7 : i + 7 ≤ z.1) (hz : z.1 ≤ 3584) (op : ∀ (a0 : Int32) (a1 : Int32) (a2 : Int32), xOpI J (F_X11_would a0 a1 a2) (F_X12_would a0 a1 a2)) (hJ : J hi hl r) (hK : ∀ hi hl r, J hi hl r → ∃ st, K (nI i + 7) hi hl r = some (1, st)) : ∃ st, F_L_law_858 z K (nI i) hi hl r = some (1, st) := by
  have g1 : xok (nI i + (1 : Int32)) z.1 = true := xlk hz (k := 1) (by omega)
  have g2 : xok (nI i + (2 : Int32)) z.1 = true := xlk hz (k := 2) (by omega)
  have g3 : xok (nI i + (3 : Int32)) z.1 = true := xlk hz (k := 3) (by omega)
  obtain ⟨v, s1, s2, e1, e2, hJ2⟩ := op (z.2 (Int32.toNatClampNeg ((nI i) + (1 : Int32)))) (z.2 (Int32.toNatClampNeg ((nI i) + (2 : Int32)))) (z.2 (Int32.toNatClampNeg ((nI i) + (3 : Int32)))) hi hl r hJ
  unfold F_L_law_858
  rw [if_pos g1, if_pos g2, if_pos g3]
  rw [xbI_eq e1, xbI_eq e2, if_pos rfl]
  exact hK _ _ _ hJ2
theorem lc_901 (h7 : i + 7 ≤ z.1) (hz : z.1 ≤ 3584) (op : ∀ (a0 : Int32) (a1 : Int32), xOpI J (F_X11_shares a0 a1) (F_X12_shares a0 a1)) (hJ : J hi hl r) (hK : ∀ hi hl r, J hi hl r → ∃ st, K (nI i + 7) hi hl r = some (1, st)) : ∃ st, F_L_law_901 z K (nI i) hi hl r = some (1, st) := by
  have g1 : xok (nI i + (1 : Int32)) z.1 = true := xlk hz (k := 1) (by omega)
  have g2 : xok (nI i + (2 : Int32)) z.1 = true := xlk hz (k := 2) (by omega)
  obtain ⟨v, s1, s2, e1, e2, hJ2⟩ := op (z.2 (Int32.toNatClampNeg ((nI i) + (1 : Int32)))) (z.2 (Int32.toNatClampNeg ((nI i) + (2 : Int32)))) hi hl r hJ
  unfold F_L_law_901
  rw [if_pos g1, if_pos g2]
  rw [xbI_eq e1, xbI_eq e2, if_pos rfl]
  exact hK _ _ _ hJ2
theorem lc_934 (h7 : i + 7 ≤ z.1) (hz : z.1 ≤ 3584) (op : ∀ (a0 : Int32) (a1 : Int32), xOpI J (F_X11_safe a0 a1) (F_X12_safe a0 a1)) (hJ : J hi hl r) (hK : ∀ hi hl r, J hi hl r → ∃ st, K (nI i + 7) hi hl r = some (1, st)) : ∃ st, F_L_law_934 z K (nI i) hi hl r = some (1, st) := by
  have g1 : xok (nI i + (1 : Int32)) z.1 = true := xlk hz (k := 1) (by omega)
  have g2 : xok (nI i + (2 : Int32)) z.1 = true := xlk hz (k := 2) (by omega)
  obtain ⟨v, s1, s2, e1, e2, hJ2⟩ := op (z.2 (Int32.toNatClampNeg ((nI i) + (1 : Int32)))) (z.2 (Int32.toNatClampNeg ((nI i) + (2 : Int32)))) hi hl r hJ
  unfold F_L_law_934
  rw [if_pos g1, if_pos g2]
  rw [xbI_eq e1, xbI_eq e2, if_pos rfl]
  exact hK _ _ _ hJ2
theorem lc_967 (h7 : i + 7 ≤ z.1) (hz : z.1 ≤ 3584) (op : ∀ (a0 : Int32) (a1 : Int32), xOpI J (F_X11_sees a0 a1) (F_X12_sees a0 a1)) (hJ : J hi hl r) (hK : ∀ hi hl r, J hi hl r → ∃ st, K (nI i + 7) hi hl r = some (1, st)) : ∃ st, F_L_law_967 z K (nI i) hi hl r = some (1, st) := by
  have g1 : xok (nI i + (1 : Int32)) z.1 = true := xlk hz (k := 1) (by omega)
  have g2 : xok (nI i + (2 : Int32)) z.1 = true := xlk hz (k := 2) (by omega)
  obtain ⟨v, s1, s2, e1, e2, hJ2⟩ := op (z.2 (Int32.toNatClampNeg ((nI i) + (1 : Int32)))) (z.2 (Int32.toNatClampNeg ((nI i) + (2 : Int32)))) hi hl r hJ
  unfold F_L_law_967
  rw [if_pos g1, if_pos g2]
  rw [xbI_eq e1, xbI_eq e2, if_pos rfl]
  exact hK _ _ _ hJ2
theorem lc_1000 (h7 : i + 7 ≤ z.1) (hz : z.1 ≤ 3584) (op : xOpI J (F_X11_forget) (F_X12_forget)) (hJ : J hi hl r) (hK : ∀ hi hl r, J hi hl r → ∃ st, K (nI i + 7) hi hl r = some (1, st)) : ∃ st, F_L_law_1000 z K (nI i) hi hl r = some (1, st) := by
  have g0 := h7
  obtain ⟨v, s1, s2, e1, e2, hJ2⟩ := op hi hl r hJ
  unfold F_L_law_1000
  rw [xbI_eq e1, xbI_eq e2, if_pos rfl]
  exact hK _ _ _ hJ2
theorem lc_1013 (h7 : i + 7 ≤ z.1) (hz : z.1 ≤ 3584) (op : ∀ (a0 : Int32), xOpI J (F_X11_unseen a0) (F_X12_unseen a0)) (hJ : J hi hl r) (hK : ∀ hi hl r, J hi hl r → ∃ st, K (nI i + 7) hi hl r = some (1, st)) : ∃ st, F_L_law_1013 z K (nI i) hi hl r = some (1, st) := by
  have g1 : xok (nI i + (1 : Int32)) z.1 = true := xlk hz (k := 1) (by omega)
  obtain ⟨v, s1, s2, e1, e2, hJ2⟩ := op (z.2 (Int32.toNatClampNeg ((nI i) + (1 : Int32)))) hi hl r hJ
  unfold F_L_law_1013
  rw [if_pos g1]
  rw [xbI_eq e1, xbI_eq e2, if_pos rfl]
  exact hK _ _ _ hJ2
theorem lc_1036 (h7 : i + 7 ≤ z.1) (hz : z.1 ≤ 3584) (op : ∀ (a0 : Int32), xOpI J (F_X11_fewest a0) (F_X12_fewest a0)) (hJ : J hi hl r) (hK : ∀ hi hl r, J hi hl r → ∃ st, K (nI i + 7) hi hl r = some (1, st)) : ∃ st, F_L_law_1036 z K (nI i) hi hl r = some (1, st) := by
  have g1 : xok (nI i + (1 : Int32)) z.1 = true := xlk hz (k := 1) (by omega)
  obtain ⟨v, s1, s2, e1, e2, hJ2⟩ := op (z.2 (Int32.toNatClampNeg ((nI i) + (1 : Int32)))) hi hl r hJ
  unfold F_L_law_1036
  rw [if_pos g1]
  rw [xbI_eq e1, xbI_eq e2, if_pos rfl]
  exact hK _ _ _ hJ2
theorem lc_1059 (h7 : i + 7 ≤ z.1) (hz : z.1 ≤ 3584) (op : ∀ (a0 : Int32), xOpI J (F_X11_keep a0) (F_X12_keep a0)) (hJ : J hi hl r) (hK : ∀ hi hl r, J hi hl r → ∃ st, K (nI i + 7) hi hl r = some (1, st)) : ∃ st, F_L_law_1059 z K (nI i) hi hl r = some (1, st) := by
  have g1 : xok (nI i + (1 : Int32)) z.1 = true := xlk hz (k := 1) (by omega)
  obtain ⟨v, s1, s2, e1, e2, hJ2⟩ := op (z.2 (Int32.toNatClampNeg ((nI i) + (1 : Int32)))) hi hl r hJ
  unfold F_L_law_1059
  rw [if_pos g1]
  rw [xbI_eq e1, xbI_eq e2, if_pos rfl]
  exact hK _ _ _ hJ2
theorem lc_1082 (h7 : i + 7 ≤ z.1) (hz : z.1 ≤ 3584) (op : ∀ (a0 : Int32), xOpI J (F_X11_back a0) (F_X12_back a0)) (hJ : J hi hl r) (hK : ∀ hi hl r, J hi hl r → ∃ st, K (nI i + 7) hi hl r = some (1, st)) : ∃ st, F_L_law_1082 z K (nI i) hi hl r = some (1, st) := by
  have g1 : xok (nI i + (1 : Int32)) z.1 = true := xlk hz (k := 1) (by omega)
  obtain ⟨v, s1, s2, e1, e2, hJ2⟩ := op (z.2 (Int32.toNatClampNeg ((nI i) + (1 : Int32)))) hi hl r hJ
  unfold F_L_law_1082
  rw [if_pos g1]
  rw [xbI_eq e1, xbI_eq e2, if_pos rfl]
  exact hK _ _ _ hJ2
theorem lc_1105 (h7 : i + 7 ≤ z.1) (hz : z.1 ≤ 3584) (op : ∀ (a0 : Int32), xOpI J (F_X11_count a0) (F_X12_count a0)) (hJ : J hi hl r) (hK : ∀ hi hl r, J hi hl r → ∃ st, K (nI i + 7) hi hl r = some (1, st)) : ∃ st, F_L_law_1105 z K (nI i) hi hl r = some (1, st) := by
  have g1 : xok (nI i + (1 : Int32)) z.1 = true := xlk hz (k := 1) (by omega)
  obtain ⟨v, s1, s2, e1, e2, hJ2⟩ := op (z.2 (Int32.toNatClampNeg ((nI i) + (1 : Int32)))) hi hl r hJ
  unfold F_L_law_1105
  rw [if_pos g1]
  rw [xbI_eq e1, xbI_eq e2, if_pos rfl]
  exact hK _ _ _ hJ2
theorem law_loop (z : xZ) (hz : z.1 ≤ 3584) (op0 : ∀ (a0 : Int32) (a1 : Int32), xOpI J (F_X11_bank a0 a1) (F_X12_bank a0 a1)) (op1 : ∀ (a0 : Int32) (a1 : Int32) (a2 : Int32) (a3 : Int32) (a4 : Int32), xOpI J (F_X11_view a0 a1 a2 a3 a4) (F_X12_view a0 a1 a2 a3 a4)) (op2 : xOpI J (F_X11_clear) (F_X12_clear)) (op3 : ∀ (a0 : Int32) (a1 : Int32), xOpI J (F_X11_reads a0 a1) (F_X12_reads a0 a1)) (op4 : ∀ (a0 : Int32) (a1 : Int32), xOpI J (F_X11_looks a0 a1) (F_X12_looks a0 a1)) (op5 : xOpL J (F_X11_number) (F_X12_number)) (op6 : xOpI J (F_X11_kind) (F_X12_kind)) (op7 : ∀ (a0 : Int32) (a1 : Int32) (a2 : Int32) (a3 : Int32) (a4 : Int64), xOpI J (F_X11_writes a0 a1 a2 a3 a4) (F_X12_writes a0 a1 a2 a3 a4)) (op8 : ∀ (a0 : Int32) (a1 : Int32) (a2 : Int32) (a3 : Int32) (a4 : Int32), xOpI J (F_X11_does a0 a1 a2 a3 a4) (F_X12_does a0 a1 a2 a3 a4)) (op9 : ∀ (a0 : Int32) (a1 : Int32) (a2 : Int32), xOpI J (F_X11_copies a0 a1 a2) (F_X12_copies a0 a1 a2)) (op10 : xOpI J (F_X11_undo) (F_X12_undo)) (op11 : ∀ (a0 : Int32) (a1 : Int32) (a2 : Int32) (a3 : Int32) (a4 : Int32), xOpI J (F_X11_plans a0 a1 a2 a3 a4) (F_X12_plans a0 a1 a2 a3 a4)) (op12 : xOpI J (F_X11_drops) (F_X12_drops)) (op13 : ∀ (a0 : Int32) (a1 : Int32), xOpI J (F_X11_modes a0 a1) (F_X12_modes a0 a1)) (op14 : xOpI J (F_X11_runs) (F_X12_runs)) (op15 : ∀ (a0 : Int32) (a1 : Int32), xOpI J (F_X11_line a0 a1) (F_X12_line a0 a1)) (op16 : ∀ (a0 : Int32), xOpI J (F_X11_met a0) (F_X12_met a0)) (op17 : ∀ (a0 : Int32), xOpI J (F_X11_forecast a0) (F_X12_forecast a0)) (op18 : ∀ (a0 : Int32), xOpI J (F_X11_wave a0) (F_X12_wave a0)) (op19 : xOpI J (F_X11_reorders) (F_X12_reorders)) (op20 : ∀ (a0 : Int32) (a1 : Int32), xOpI J (F_X11_joins a0 a1) (F_X12_joins a0 a1)) (op21 : ∀ (a0 : Int32) (a1 : Int32) (a2 : Int32), xOpI J (F_X11_would a0 a1 a2) (F_X12_would a0 a1 a2)) (op22 : ∀ (a0 : Int32) (a1 : Int32), xOpI J (F_X11_shares a0 a1) (F_X12_shares a0 a1)) (op23 : ∀ (a0 : Int32) (a1 : Int32), xOpI J (F_X11_safe a0 a1) (F_X12_safe a0 a1)) (op24 : ∀ (a0 : Int32) (a1 : Int32), xOpI J (F_X11_sees a0 a1) (F_X12_sees a0 a1)) (op25 : xOpI J (F_X11_forget) (F_X12_forget)) (op26 : ∀ (a0 : Int32), xOpI J (F_X11_unseen a0) (F_X12_unseen a0)) (op27 : ∀ (a0 : Int32), xOpI J (F_X11_fewest a0) (F_X12_fewest a0)) (op28 : ∀ (a0 : Int32), xOpI J (F_X11_keep a0) (F_X12_keep a0)) (op29 : ∀ (a0 : Int32), xOpI J (F_X11_back a0) (F_X12_back a0)) (op30 : ∀ (a0 : Int32), xOpI J (F_X11_count a0) (F_X12_count a0)) : ∀ (n i : Nat) (hi : Nat → Nat → Int32) (hl : Nat → Nat → Int64) (r : xRr), i ≤ z.1 → z.1 < n + i → J hi hl r → ∃ st, F_L_law_18 z n (nI i) hi hl r = some (1, st) := by
  intro n
  induction n with
  | zero => intro i hi hl r hi1 hn; omega
  | succ n ih =>
    intro i hi hl r hi1 hn hJ
    have e7 : (Int32.ofNat z.1 - (7 : Int32)).toInt = (z.1 : Int) - 7 := by
      have := pk_sub_toInt (a := z.1) (b := 7) (by omega) (by omega)
      exact this
    have ei : (nI i).toInt = (i : Int) := nI_toInt (by omega)
    unfold F_L_law_18
    by_cases hc : (Int32.ofNat z.1 - (7 : Int32)) < nI i
    · rw [if_pos hc]
      exact ⟨_, rfl⟩
    · rw [if_neg hc]
      have h7 : i + 7 ≤ z.1 := by
        rw [Int32.lt_iff_toInt_lt, e7, ei] at hc
        omega
      have g0 : xok (nI i) z.1 = true := by
        simp only [xok, Bool.and_eq_true, decide_eq_true_eq, ei]
        omega
      rw [if_pos g0]
      have hK : ∀ hi hl r, J hi hl r → ∃ st, F_L_law_18 z n (nI i + 7) hi hl r = some (1, st) := by
        intro hi hl r hJ
        have e : nI i + 7 = nI (i + 7) := nI_add i 7
        rw [e]
        exact ih (i + 7) hi hl r h7 (by omega) hJ
      generalize (z.2 (nI i).toNatClampNeg &&& 31) = c
      by_cases c0 : c = 0
      · rw [if_pos c0]
        exact lc_172 h7 hz op0 hJ hK
      rw [if_neg c0]
      by_cases c1 : c = 1
      · rw [if_pos c1]
        exact lc_205 h7 hz op1 hJ hK
      rw [if_neg c1]
      by_cases c2 : c = 2
      · rw [if_pos c2]
        exact lc_268 h7 hz op2 hJ hK
      rw [if_neg c2]
      by_cases c3 : c = 3
      · rw [if_pos c3]
        exact lc_281 h7 hz op3 hJ hK
      rw [if_neg c3]
      by_cases c4 : c = 4
      · rw [if_pos c4]
        exact lc_314 h7 hz op4 hJ hK
      rw [if_neg c4]
      by_cases c5 : c = 5
      · rw [if_pos c5]
        exact lc_347 h7 hz op5 hJ hK
      rw [if_neg c5]
      by_cases c6 : c = 6
      · rw [if_pos c6]
        exact lc_361 h7 hz op6 hJ hK
      rw [if_neg c6]
      by_cases c7 : c = 7
      · rw [if_pos c7]
        exact lc_374 h7 hz op7 hJ hK
      rw [if_neg c7]
      by_cases c8 : c = 8
      · rw [if_pos c8]
        exact lc_469 h7 hz op8 hJ hK
      rw [if_neg c8]
      by_cases c9 : c = 9
      · rw [if_pos c9]
        exact lc_532 h7 hz op9 hJ hK
      rw [if_neg c9]
      by_cases c10 : c = 10
      · rw [if_pos c10]
        exact lc_575 h7 hz op10 hJ hK
      rw [if_neg c10]
      by_cases c11 : c = 11
      · rw [if_pos c11]
        exact lc_588 h7 hz op11 hJ hK
      rw [if_neg c11]
      by_cases c12 : c = 12
      · rw [if_pos c12]
        exact lc_651 h7 hz op12 hJ hK
      rw [if_neg c12]
      by_cases c13 : c = 13
      · rw [if_pos c13]
        exact lc_664 h7 hz op13 hJ hK
      rw [if_neg c13]
      by_cases c14 : c = 14
      · rw [if_pos c14]
        exact lc_697 h7 hz op14 hJ hK
      rw [if_neg c14]
      by_cases c15 : c = 15
      · rw [if_pos c15]
        exact lc_710 h7 hz op15 hJ hK
      rw [if_neg c15]
      by_cases c16 : c = 16
      · rw [if_pos c16]
        exact lc_743 h7 hz op16 hJ hK
      rw [if_neg c16]
      by_cases c17 : c = 17
      · rw [if_pos c17]
        exact lc_766 h7 hz op17 hJ hK
      rw [if_neg c17]
      by_cases c18 : c = 18
      · rw [if_pos c18]
        exact lc_789 h7 hz op18 hJ hK
      rw [if_neg c18]
      by_cases c19 : c = 19
      · rw [if_pos c19]
        exact lc_812 h7 hz op19 hJ hK
      rw [if_neg c19]
      by_cases c20 : c = 20
      · rw [if_pos c20]
        exact lc_825 h7 hz op20 hJ hK
      rw [if_neg c20]
      by_cases c21 : c = 21
      · rw [if_pos c21]
        exact lc_858 h7 hz op21 hJ hK
      rw [if_neg c21]
      by_cases c22 : c = 22
      · rw [if_pos c22]
        exact lc_901 h7 hz op22 hJ hK
      rw [if_neg c22]
      by_cases c23 : c = 23
      · rw [if_pos c23]
        exact lc_934 h7 hz op23 hJ hK
      rw [if_neg c23]
      by_cases c24 : c = 24
      · rw [if_pos c24]
        exact lc_967 h7 hz op24 hJ hK
      rw [if_neg c24]
      by_cases c25 : c = 25
      · rw [if_pos c25]
        exact lc_1000 h7 hz op25 hJ hK
      rw [if_neg c25]
      by_cases c26 : c = 26
      · rw [if_pos c26]
        exact lc_1013 h7 hz op26 hJ hK
      rw [if_neg c26]
      by_cases c27 : c = 27
      · rw [if_pos c27]
        exact lc_1036 h7 hz op27 hJ hK
      rw [if_neg c27]
      by_cases c28 : c = 28
      · rw [if_pos c28]
        exact lc_1059 h7 hz op28 hJ hK
      rw [if_neg c28]
      by_cases c29 : c = 29
      · rw [if_pos c29]
        exact lc_1082 h7 hz op29 hJ hK
      rw [if_neg c29]
      by_cases c30 : c = 30
      · rw [if_pos c30]
        exact lc_1105 h7 hz op30 hJ hK
      rw [if_neg c30]
      exact hK _ _ _ hJ
end LOOP
