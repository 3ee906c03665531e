def xdO (n : Nat) (sh : Nat → Nat × Nat) (t ci : Nat) : Bool := decide (t < n) && decide (sh t = (ci + 5, xnf ci))
theorem xdO_lt {n : Nat} {sh : Nat → Nat × Nat} {t ci : Nat} (h : xdO n sh t ci = true) : t < n := by
  simp only [xdO, Bool.and_eq_true, decide_eq_true_eq] at h
  exact h.1
theorem xdO_sh {n : Nat} {sh : Nat → Nat × Nat} {t ci : Nat} (h : xdO n sh t ci = true) : sh t = (ci + 5, xnf ci) := by
  simp only [xdO, Bool.and_eq_true, decide_eq_true_eq] at h
  exact h.2
def xdA (n : Nat) (sh : Nat → Nat × Nat) (t kd : Nat) (i : Int32) : Bool := decide (t < n) && (decide ((sh t).1 = kd) && xok i (sh t).2)
theorem xdA_lt {n : Nat} {sh : Nat → Nat × Nat} {t kd : Nat} {i : Int32} (h : xdA n sh t kd i = true) : t < n := by
  simp only [xdA, Bool.and_eq_true, decide_eq_true_eq] at h
  exact h.1
theorem xdA_sh {n : Nat} {sh : Nat → Nat × Nat} {t kd : Nat} {i : Int32} (h : xdA n sh t kd i = true) : sh t = (kd, (sh t).2) := by
  simp only [xdA, Bool.and_eq_true, decide_eq_true_eq] at h
  exact Prod.ext h.2.1 rfl
theorem xdA_in {n : Nat} {sh : Nat → Nat × Nat} {t kd : Nat} {i : Int32} (h : xdA n sh t kd i = true) : vp_in i (sh t).2 := by
  simp only [xdA, Bool.and_eq_true, decide_eq_true_eq] at h
  exact xok_in h.2.2
def xbH {β : Type} (X : Option xHp) (K : Nat → (Nat → Nat × Nat) → (Nat → Nat → Int32) → (Nat → Nat → Int64) → (Nat → Nat → Option Nat) → Option β) : Option β := match X with
  | none => none
  | some q => K q.1 q.2.1 q.2.2.1 q.2.2.2.1 q.2.2.2.2
theorem xg_bH {β : Type} {X : Option xHp} {K : Nat → (Nat → Nat × Nat) → (Nat → Nat → Int32) → (Nat → Nat → Int64) → (Nat → Nat → Option Nat) → Option β} {o : β} {P : Prop} (h : xbH X K = some o) (k : ∀ n sh hi hl hr, X = some (n, sh, hi, hl, hr) → K n sh hi hl hr = some o → P) : P := by
  cases X with
  | none => cases h
  | some q => exact k q.1 q.2.1 q.2.2.1 q.2.2.2.1 q.2.2.2.2 rfl h
section
variable {z : xZ}
def C_X0_init (v0 : Nat) (_ _ : Nat) (n : Nat) (sh : Nat → Nat × Nat) (hi : Nat → Nat → Int32) (hl : Nat → Nat → Int64) (hr : Nat → Nat → Option Nat) : Option xHp := if decide (0 + 1 ≤ 4 ∧ 0 + 6 ≤ 156 ∧ n + 1 ≤ 1000000) = true then if xdO (n + 1) (xsu sh n (0, 6)) v0 0 = true then if decide ((0 + 1) + 1 ≤ 4 ∧ (0 + 6) + 72 ≤ 156 ∧ (n + 1) + 1 ≤ 1000000) = true then if xdO ((n + 1) + 1) (xsu (xsu sh n (0, 6)) (n + 1) (0, 72)) v0 0 = true then if decide (((0 + 1) + 1) + 1 ≤ 4 ∧ ((0 + 6) + 72) + 72 ≤ 156 ∧ ((n + 1) + 1) + 1 ≤ 1000000) = true then if xdO (((n + 1) + 1) + 1) (xsu (xsu (xsu sh n (0, 6)) (n + 1) (0, 72)) ((n + 1) + 1) (1, 72)) v0 0 = true then if decide ((((0 + 1) + 1) + 1) + 1 ≤ 4 ∧ (((0 + 6) + 72) + 72) + 6 ≤ 156 ∧ (((n + 1) + 1) + 1) + 1 ≤ 1000000) = true then if xdO ((((n + 1) + 1) + 1) + 1) (xsu (xsu (xsu (xsu sh n (0, 6)) (n + 1) (0, 72)) ((n + 1) + 1) (1, 72)) (((n + 1) + 1) + 1) (0, 6)) v0 0 = true then if decide (((((0 + 1) + 1) + 1) + 1) = 4 ∧ ((((0 + 6) + 72) + 72) + 6) ≤ 156) = true then some (((((n + 1) + 1) + 1) + 1), (xsu (xsu (xsu (xsu sh n (0, 6)) (n + 1) (0, 72)) ((n + 1) + 1) (1, 72)) (((n + 1) + 1) + 1) (0, 6)), (xz (xz (xz (xz hi n 0) (n + 1) 0) ((n + 1) + 1) 0) (((n + 1) + 1) + 1) 0), (xz (xz (xz (xz hl n 0) (n + 1) 0) ((n + 1) + 1) 0) (((n + 1) + 1) + 1) 0), (xu (xz (xu (xz (xu (xz (xu (xz hr n none) v0 0 (some n)) (n + 1) none) v0 1 (some (n + 1))) ((n + 1) + 1) none) v0 2 (some ((n + 1) + 1))) (((n + 1) + 1) + 1) none) v0 3 (some (((n + 1) + 1) + 1)))) else none else none else none else none else none else none else none else none else none
set_option maxRecDepth 20000 in
set_option maxHeartbeats 2000000 in
theorem rc_X0_init (v0 : Nat) (n : Nat) (sh : Nat → Nat × Nat) (hi : Nat → Nat → Int32) (hl : Nat → Nat → Int64) (hr : Nat → Nat → Option Nat) (o : xHp) (h : C_X0_init v0 0 0 n sh hi hl hr = some o) : xM yX0_init cX0_init 1 0 (2, 4, 156) z [.ref v0] (n, sh, hi, hl, hr) (none, o) := by
  refine x_meth2 (C := RX0) (ini := true) (L := [some (.ref v0)]) rfl (by decide) (fun _ => rfl) (by decide) (Nat.le_of_ble_eq_true rfl) rfl ?_
  refine x_aload_n (pc' := 1) dX0_init_0 rfl rfl ?_
  refine x_oinit (pc' := 4) dX0_init_1 l_X0_3 w_oii w_oic (Nat.le_of_ble_eq_true rfl) (Nat.le_of_ble_eq_true rfl) rfl ?_
  refine x_aload_n (pc' := 5) dX0_init_4 rfl rfl ?_
  refine x_bipush (pc' := 7) (x := 6) dX0_init_5 (by decide) rfl ?_
  refine xg_if h (fun g1 h => ?_)
  refine x_newi (pc' := 9) (N := 6) dX0_init_7 w_aint (by decide) (by decide) (by decide) (of_decide_eq_true g1).1 (of_decide_eq_true g1).2.1 (of_decide_eq_true g1).2.2 rfl ?_
  refine xg_if h (fun g2 h => ?_)
  refine x_putr (pc' := 12) (Or.inr ⟨_, rfl⟩) dX0_init_9 f_X0_9 (Or.inr ⟨rfl, _, _, rfl⟩) (xdO_lt g2) (xdO_sh g2) rfl rfl ?_
  refine x_aload_n (pc' := 13) dX0_init_12 rfl rfl ?_
  refine x_bipush (pc' := 15) (x := 72) dX0_init_13 (by decide) rfl ?_
  refine xg_if h (fun g3 h => ?_)
  refine x_newi (pc' := 17) (N := 72) dX0_init_15 w_aint (by decide) (by decide) (by decide) (of_decide_eq_true g3).1 (of_decide_eq_true g3).2.1 (of_decide_eq_true g3).2.2 rfl ?_
  refine xg_if h (fun g4 h => ?_)
  refine x_putr (pc' := 20) (Or.inr ⟨_, rfl⟩) dX0_init_17 f_X0_15 (Or.inr ⟨rfl, _, _, rfl⟩) (xdO_lt g4) (xdO_sh g4) rfl rfl ?_
  refine x_aload_n (pc' := 21) dX0_init_20 rfl rfl ?_
  refine x_bipush (pc' := 23) (x := 72) dX0_init_21 (by decide) rfl ?_
  refine xg_if h (fun g5 h => ?_)
  refine x_newl (pc' := 25) (N := 72) dX0_init_23 w_along (by decide) (by decide) (by decide) (of_decide_eq_true g5).1 (of_decide_eq_true g5).2.1 (of_decide_eq_true g5).2.2 rfl ?_
  refine xg_if h (fun g6 h => ?_)
  refine x_putr (pc' := 28) (Or.inr ⟨_, rfl⟩) dX0_init_25 f_X0_18 (Or.inr ⟨rfl, _, _, rfl⟩) (xdO_lt g6) (xdO_sh g6) rfl rfl ?_
  refine x_aload_n (pc' := 29) dX0_init_28 rfl rfl ?_
  refine x_bipush (pc' := 31) (x := 6) dX0_init_29 (by decide) rfl ?_
  refine xg_if h (fun g7 h => ?_)
  refine x_newi (pc' := 33) (N := 6) dX0_init_31 w_aint (by decide) (by decide) (by decide) (of_decide_eq_true g7).1 (of_decide_eq_true g7).2.1 (of_decide_eq_true g7).2.2 rfl ?_
  refine xg_if h (fun g8 h => ?_)
  refine x_putr (pc' := 36) (Or.inr ⟨_, rfl⟩) dX0_init_33 f_X0_22 (Or.inr ⟨rfl, _, _, rfl⟩) (xdO_lt g8) (xdO_sh g8) rfl rfl ?_
  refine xg_if h (fun g9 h => ?_)
  obtain rfl := Option.some.inj h
  exact x_vret dX0_init_36 rfl (of_decide_eq_true g9).1 (of_decide_eq_true g9).2 rfl
def C_X8_init (v0 : Nat) (v1 : Nat) (_ _ : Nat) (n : Nat) (sh : Nat → Nat × Nat) (hi : Nat → Nat → Int32) (hl : Nat → Nat → Int64) (hr : Nat → Nat → Option Nat) : Option xHp := if decide (0 + 1 ≤ 7 ∧ 0 + 8 ≤ 80 ∧ n + 1 ≤ 1000000) = true then if xdO (n + 1) (xsu sh n (0, 8)) v0 7 = true then if decide ((0 + 1) + 1 ≤ 7 ∧ (0 + 8) + 8 ≤ 80 ∧ (n + 1) + 1 ≤ 1000000) = true then if xdO ((n + 1) + 1) (xsu (xsu sh n (0, 8)) (n + 1) (0, 8)) v0 7 = true then if decide (((0 + 1) + 1) + 1 ≤ 7 ∧ ((0 + 8) + 8) + 8 ≤ 80 ∧ ((n + 1) + 1) + 1 ≤ 1000000) = true then if xdO (((n + 1) + 1) + 1) (xsu (xsu (xsu sh n (0, 8)) (n + 1) (0, 8)) ((n + 1) + 1) (0, 8)) v0 7 = true then if decide ((((0 + 1) + 1) + 1) + 1 ≤ 7 ∧ (((0 + 8) + 8) + 8) + 32 ≤ 80 ∧ (((n + 1) + 1) + 1) + 1 ≤ 1000000) = true then if xdO ((((n + 1) + 1) + 1) + 1) (xsu (xsu (xsu (xsu sh n (0, 8)) (n + 1) (0, 8)) ((n + 1) + 1) (0, 8)) (((n + 1) + 1) + 1) (0, 32)) v0 7 = true then if decide (((((0 + 1) + 1) + 1) + 1) + 1 ≤ 7 ∧ ((((0 + 8) + 8) + 8) + 32) + 8 ≤ 80 ∧ ((((n + 1) + 1) + 1) + 1) + 1 ≤ 1000000) = true then if xdO (((((n + 1) + 1) + 1) + 1) + 1) (xsu (xsu (xsu (xsu (xsu sh n (0, 8)) (n + 1) (0, 8)) ((n + 1) + 1) (0, 8)) (((n + 1) + 1) + 1) (0, 32)) ((((n + 1) + 1) + 1) + 1) (0, 8)) v0 7 = true then if decide ((((((0 + 1) + 1) + 1) + 1) + 1) + 1 ≤ 7 ∧ (((((0 + 8) + 8) + 8) + 32) + 8) + 8 ≤ 80 ∧ (((((n + 1) + 1) + 1) + 1) + 1) + 1 ≤ 1000000) = true then if xdO ((((((n + 1) + 1) + 1) + 1) + 1) + 1) (xsu (xsu (xsu (xsu (xsu (xsu sh n (0, 8)) (n + 1) (0, 8)) ((n + 1) + 1) (0, 8)) (((n + 1) + 1) + 1) (0, 32)) ((((n + 1) + 1) + 1) + 1) (0, 8)) (((((n + 1) + 1) + 1) + 1) + 1) (0, 8)) v0 7 = true then if decide (((((((0 + 1) + 1) + 1) + 1) + 1) + 1) + 1 ≤ 7 ∧ ((((((0 + 8) + 8) + 8) + 32) + 8) + 8) + 8 ≤ 80 ∧ ((((((n + 1) + 1) + 1) + 1) + 1) + 1) + 1 ≤ 1000000) = true then if xdO (((((((n + 1) + 1) + 1) + 1) + 1) + 1) + 1) (xsu (xsu (xsu (xsu (xsu (xsu (xsu sh n (0, 8)) (n + 1) (0, 8)) ((n + 1) + 1) (0, 8)) (((n + 1) + 1) + 1) (0, 32)) ((((n + 1) + 1) + 1) + 1) (0, 8)) (((((n + 1) + 1) + 1) + 1) + 1) (0, 8)) ((((((n + 1) + 1) + 1) + 1) + 1) + 1) (0, 8)) v0 7 = true then if xdO (((((((n + 1) + 1) + 1) + 1) + 1) + 1) + 1) (xsu (xsu (xsu (xsu (xsu (xsu (xsu sh n (0, 8)) (n + 1) (0, 8)) ((n + 1) + 1) (0, 8)) (((n + 1) + 1) + 1) (0, 32)) ((((n + 1) + 1) + 1) + 1) (0, 8)) (((((n + 1) + 1) + 1) + 1) + 1) (0, 8)) ((((((n + 1) + 1) + 1) + 1) + 1) + 1) (0, 8)) v0 7 = true then if decide ((((((((0 + 1) + 1) + 1) + 1) + 1) + 1) + 1) = 7 ∧ (((((((0 + 8) + 8) + 8) + 32) + 8) + 8) + 8) ≤ 80) = true then some ((((((((n + 1) + 1) + 1) + 1) + 1) + 1) + 1), (xsu (xsu (xsu (xsu (xsu (xsu (xsu sh n (0, 8)) (n + 1) (0, 8)) ((n + 1) + 1) (0, 8)) (((n + 1) + 1) + 1) (0, 32)) ((((n + 1) + 1) + 1) + 1) (0, 8)) (((((n + 1) + 1) + 1) + 1) + 1) (0, 8)) ((((((n + 1) + 1) + 1) + 1) + 1) + 1) (0, 8)), (xz (xz (xz (xz (xz (xz (xz hi n 0) (n + 1) 0) ((n + 1) + 1) 0) (((n + 1) + 1) + 1) 0) ((((n + 1) + 1) + 1) + 1) 0) (((((n + 1) + 1) + 1) + 1) + 1) 0) ((((((n + 1) + 1) + 1) + 1) + 1) + 1) 0), (xz (xz (xz (xz (xz (xz (xz hl n 0) (n + 1) 0) ((n + 1) + 1) 0) (((n + 1) + 1) + 1) 0) ((((n + 1) + 1) + 1) + 1) 0) (((((n + 1) + 1) + 1) + 1) + 1) 0) ((((((n + 1) + 1) + 1) + 1) + 1) + 1) 0), (xu (xu (xz (xu (xz (xu (xz (xu (xz (xu (xz (xu (xz (xu (xz hr n none) v0 1 (some n)) (n + 1) none) v0 2 (some (n + 1))) ((n + 1) + 1) none) v0 3 (some ((n + 1) + 1))) (((n + 1) + 1) + 1) none) v0 4 (some (((n + 1) + 1) + 1))) ((((n + 1) + 1) + 1) + 1) none) v0 5 (some ((((n + 1) + 1) + 1) + 1))) (((((n + 1) + 1) + 1) + 1) + 1) none) v0 6 (some (((((n + 1) + 1) + 1) + 1) + 1))) ((((((n + 1) + 1) + 1) + 1) + 1) + 1) none) v0 7 (some ((((((n + 1) + 1) + 1) + 1) + 1) + 1))) v0 0 (some v1))) else none else none else none else none else none else none else none else none else none else none else none else none else none else none else none else none
set_option maxRecDepth 20000 in
set_option maxHeartbeats 2000000 in
theorem rc_X8_init (v0 : Nat) (v1 : Nat) (n : Nat) (sh : Nat → Nat × Nat) (hi : Nat → Nat → Int32) (hl : Nat → Nat → Int64) (hr : Nat → Nat → Option Nat) (o : xHp) (h : C_X8_init v0 v1 0 0 n sh hi hl hr = some o) : xM yX8_init cX8_init 2 0 (2, 7, 80) z [.ref v0, .ref v1] (n, sh, hi, hl, hr) (none, o) := by
  refine x_meth2 (C := RX8) (ini := true) (L := [some (.ref v0), some (.ref v1)]) rfl (by decide) (fun _ => rfl) (by decide) (Nat.le_of_ble_eq_true rfl) rfl ?_
  refine x_aload_n (pc' := 1) dX8_init_0 rfl rfl ?_
  refine x_oinit (pc' := 4) dX8_init_1 l_X8_3 w_oii w_oic (Nat.le_of_ble_eq_true rfl) (Nat.le_of_ble_eq_true rfl) rfl ?_
  refine x_aload_n (pc' := 5) dX8_init_4 rfl rfl ?_
  refine x_bipush (pc' := 7) (x := 8) dX8_init_5 (by decide) rfl ?_
  refine xg_if h (fun g1 h => ?_)
  refine x_newi (pc' := 9) (N := 8) dX8_init_7 w_aint (by decide) (by decide) (by decide) (of_decide_eq_true g1).1 (of_decide_eq_true g1).2.1 (of_decide_eq_true g1).2.2 rfl ?_
  refine xg_if h (fun g2 h => ?_)
  refine x_putr (pc' := 12) (Or.inr ⟨_, rfl⟩) dX8_init_9 f_X8_9 (Or.inr ⟨rfl, _, _, rfl⟩) (xdO_lt g2) (xdO_sh g2) rfl rfl ?_
  refine x_aload_n (pc' := 13) dX8_init_12 rfl rfl ?_
  refine x_bipush (pc' := 15) (x := 8) dX8_init_13 (by decide) rfl ?_
  refine xg_if h (fun g3 h => ?_)
  refine x_newi (pc' := 17) (N := 8) dX8_init_15 w_aint (by decide) (by decide) (by decide) (of_decide_eq_true g3).1 (of_decide_eq_true g3).2.1 (of_decide_eq_true g3).2.2 rfl ?_
  refine xg_if h (fun g4 h => ?_)
  refine x_putr (pc' := 20) (Or.inr ⟨_, rfl⟩) dX8_init_17 f_X8_15 (Or.inr ⟨rfl, _, _, rfl⟩) (xdO_lt g4) (xdO_sh g4) rfl rfl ?_
  refine x_aload_n (pc' := 21) dX8_init_20 rfl rfl ?_
  refine x_bipush (pc' := 23) (x := 8) dX8_init_21 (by decide) rfl ?_
  refine xg_if h (fun g5 h => ?_)
  refine x_newi (pc' := 25) (N := 8) dX8_init_23 w_aint (by decide) (by decide) (by decide) (of_decide_eq_true g5).1 (of_decide_eq_true g5).2.1 (of_decide_eq_true g5).2.2 rfl ?_
  refine xg_if h (fun g6 h => ?_)
  refine x_putr (pc' := 28) (Or.inr ⟨_, rfl⟩) dX8_init_25 f_X8_18 (Or.inr ⟨rfl, _, _, rfl⟩) (xdO_lt g6) (xdO_sh g6) rfl rfl ?_
  refine x_aload_n (pc' := 29) dX8_init_28 rfl rfl ?_
  refine x_bipush (pc' := 31) (x := 32) dX8_init_29 (by decide) rfl ?_
  refine xg_if h (fun g7 h => ?_)
  refine x_newi (pc' := 33) (N := 32) dX8_init_31 w_aint (by decide) (by decide) (by decide) (of_decide_eq_true g7).1 (of_decide_eq_true g7).2.1 (of_decide_eq_true g7).2.2 rfl ?_
  refine xg_if h (fun g8 h => ?_)
  refine x_putr (pc' := 36) (Or.inr ⟨_, rfl⟩) dX8_init_33 f_X8_21 (Or.inr ⟨rfl, _, _, rfl⟩) (xdO_lt g8) (xdO_sh g8) rfl rfl ?_
  refine x_aload_n (pc' := 37) dX8_init_36 rfl rfl ?_
  refine x_bipush (pc' := 39) (x := 8) dX8_init_37 (by decide) rfl ?_
  refine xg_if h (fun g9 h => ?_)
  refine x_newi (pc' := 41) (N := 8) dX8_init_39 w_aint (by decide) (by decide) (by decide) (of_decide_eq_true g9).1 (of_decide_eq_true g9).2.1 (of_decide_eq_true g9).2.2 rfl ?_
  refine xg_if h (fun g10 h => ?_)
  refine x_putr (pc' := 44) (Or.inr ⟨_, rfl⟩) dX8_init_41 f_X8_24 (Or.inr ⟨rfl, _, _, rfl⟩) (xdO_lt g10) (xdO_sh g10) rfl rfl ?_
  refine x_aload_n (pc' := 45) dX8_init_44 rfl rfl ?_
  refine x_bipush (pc' := 47) (x := 8) dX8_init_45 (by decide) rfl ?_
  refine xg_if h (fun g11 h => ?_)
  refine x_newi (pc' := 49) (N := 8) dX8_init_47 w_aint (by decide) (by decide) (by decide) (of_decide_eq_true g11).1 (of_decide_eq_true g11).2.1 (of_decide_eq_true g11).2.2 rfl ?_
  refine xg_if h (fun g12 h => ?_)
  refine x_putr (pc' := 52) (Or.inr ⟨_, rfl⟩) dX8_init_49 f_X8_27 (Or.inr ⟨rfl, _, _, rfl⟩) (xdO_lt g12) (xdO_sh g12) rfl rfl ?_
  refine x_aload_n (pc' := 53) dX8_init_52 rfl rfl ?_
  refine x_bipush (pc' := 55) (x := 8) dX8_init_53 (by decide) rfl ?_
  refine xg_if h (fun g13 h => ?_)
  refine x_newi (pc' := 57) (N := 8) dX8_init_55 w_aint (by decide) (by decide) (by decide) (of_decide_eq_true g13).1 (of_decide_eq_true g13).2.1 (of_decide_eq_true g13).2.2 rfl ?_
  refine xg_if h (fun g14 h => ?_)
  refine x_putr (pc' := 60) (Or.inr ⟨_, rfl⟩) dX8_init_57 f_X8_30 (Or.inr ⟨rfl, _, _, rfl⟩) (xdO_lt g14) (xdO_sh g14) rfl rfl ?_
  refine x_aload_n (pc' := 61) dX8_init_60 rfl rfl ?_
  refine x_aload_n (pc' := 62) dX8_init_61 rfl rfl ?_
  refine xg_if h (fun g15 h => ?_)
  refine x_putr (pc' := 65) (Or.inl ⟨_, rfl⟩) dX8_init_62 f_X8_33 (Or.inr ⟨rfl, _, _, rfl⟩) (xdO_lt g15) (xdO_sh g15) rfl rfl ?_
  refine xg_if h (fun g16 h => ?_)
  obtain rfl := Option.some.inj h
  exact x_vret dX8_init_65 rfl (of_decide_eq_true g16).1 (of_decide_eq_true g16).2 rfl
def C_X6_init (v0 : Nat) (_ _ : Nat) (n : Nat) (sh : Nat → Nat × Nat) (hi : Nat → Nat → Int32) (hl : Nat → Nat → Int64) (hr : Nat → Nat → Option Nat) : Option xHp := if xdO n sh v0 5 = true then if decide (0 = 0 ∧ 0 ≤ 0) = true then some (n, sh, (xu hi v0 0 (10 : Int32)), hl, hr) else none else none
set_option maxRecDepth 20000 in
set_option maxHeartbeats 2000000 in
theorem rc_X6_init (v0 : Nat) (n : Nat) (sh : Nat → Nat × Nat) (hi : Nat → Nat → Int32) (hl : Nat → Nat → Int64) (hr : Nat → Nat → Option Nat) (o : xHp) (h : C_X6_init v0 0 0 n sh hi hl hr = some o) : xM yX6_init cX6_init 1 0 (2, 0, 0) z [.ref v0] (n, sh, hi, hl, hr) (none, o) := by
  refine x_meth2 (C := RX6) (ini := true) (L := [some (.ref v0)]) rfl (by decide) (fun _ => rfl) (by decide) (Nat.le_of_ble_eq_true rfl) rfl ?_
  refine x_aload_n (pc' := 1) dX6_init_0 rfl rfl ?_
  refine x_oinit (pc' := 4) dX6_init_1 l_X6_3 w_oii w_oic (Nat.le_of_ble_eq_true rfl) (Nat.le_of_ble_eq_true rfl) rfl ?_
  refine x_aload_n (pc' := 5) dX6_init_4 rfl rfl ?_
  refine x_bipush (pc' := 7) (x := 10) dX6_init_5 (by decide) rfl ?_
  refine xg_if h (fun g1 h => ?_)
  refine x_puti (pc' := 10) dX6_init_7 f_X6_9 (Or.inl rfl) (xdO_lt g1) (xdO_sh g1) rfl rfl ?_
  refine xg_if h (fun g2 h => ?_)
  obtain rfl := Option.some.inj h
  exact x_vret dX6_init_10 rfl (of_decide_eq_true g2).1 (of_decide_eq_true g2).2 rfl
def C_X5_init_47 : Nat → Nat → Int32 → Nat → Nat → Nat → (Nat → Nat × Nat) → (Nat → Nat → Int32) → (Nat → Nat → Int64) → (Nat → Nat → Option Nat) → Option xHp
  | 0, _, _, _, _, _, _, _, _, _ => none
  | f + 1, v0, v3, k, q, n, sh, hi, hl, hr => if (12 : Int32) ≤ v3 then if decide (k = 15 ∧ q ≤ 40) = true then some (n, sh, hi, hl, hr) else none else if xdO n sh v0 4 = true then xbO (hr v0 4) (fun t4 => if decide (k + 1 ≤ 15 ∧ q + xnf 5 ≤ 40 ∧ n + 1 ≤ 1000000) = true then if decide (n < (n + 1) ∧ (k + 1) + 0 ≤ 15 ∧ (q + xnf 5) + 0 ≤ 40) = true then xbH (C_X6_init n 0 0 (n + 1) (xsu sh n (5 + 5, xnf 5)) (xz hi n 0) (xz hl n 0) (xz hr n none)) (fun n8 sh8 hi8 hl8 hr8 => if xdA n8 sh8 t4 4 v3 = true then if xdO n8 sh8 n 5 = true then (C_X5_init_47 f) v0 (v3 + (1)) ((k + 1) + 0) ((q + xnf 5) + 0) n8 sh8 hi8 hl8 (xu hr8 t4 (Int32.toNatClampNeg v3) (some n)) else none else none) else none else none) else none
set_option maxRecDepth 20000 in
set_option maxHeartbeats 2000000 in
theorem rc_X5_init_47 : ∀ (f : Nat) (v0 : Nat) (v3 : Int32) (d1 : Option Value) (d2 : Option Value) (k q n : Nat) (sh : Nat → Nat × Nat) (hi : Nat → Nat → Int32) (hl : Nat → Nat → Int64) (hr : Nat → Nat → Option Nat) (o : xHp), C_X5_init_47 f v0 v3 k q n sh hi hl hr = some o → xR (RX5, cX5_init, 4, true, 0) (3, 15, 40) z k q 47 [some (.ref v0), d1, d2, some (.int v3)] [] (n, sh, hi, hl, hr) (none, o) := by
  intro f
  induction f with
  | zero =>
    intro v0 v3 d1 d2 k q n sh hi hl hr o h
    have h : none = some o := h
    cases h
  | succ f ih =>
    intro v0 v3 d1 d2 k q n sh hi hl hr o h
    refine x_iload_n (pc' := 48) dX5_init_47 rfl rfl ?_
    refine x_bipush (pc' := 50) (x := 12) dX5_init_48 (by decide) rfl ?_
    refine xg_ite h (fun g1 h => ?_) (fun g1 h => ?_)
    · refine x_icmp_ge (tgt := 72) (pc' := 53) dX5_init_50 (by decide) rfl (fun _ => ?_) (fun hn => absurd g1 hn)
      refine xg_if h (fun g2 h => ?_)
      obtain rfl := Option.some.inj h
      exact x_vret dX5_init_72 rfl (of_decide_eq_true g2).1 (of_decide_eq_true g2).2 rfl
    · refine x_icmp_ge (tgt := 72) (pc' := 53) dX5_init_50 (by decide) rfl (fun hn => absurd hn g1) (fun _ => ?_)
      refine x_aload_n (pc' := 54) dX5_init_53 rfl rfl ?_
      refine xg_if h (fun g3 h => ?_)
      refine xg_bO h (fun t4 e5 h => ?_)
      refine x_getr (pc' := 57) (t := t4) dX5_init_54 f_X5_21 (xdO_lt g3) (xdO_sh g3) rfl e5 rfl ?_
      refine x_iload_n (pc' := 58) dX5_init_57 rfl rfl ?_
      refine xg_if h (fun g6 h => ?_)
      refine x_new (pc' := 61) dX5_init_58 k_X5_9 clsX6 (of_decide_eq_true g6).1 (of_decide_eq_true g6).2.1 (of_decide_eq_true g6).2.2 rfl ?_
      refine x_dup (pc' := 62) dX5_init_61 rfl rfl ?_
      refine xg_if h (fun g7 h => ?_)
      refine xg_bH h (fun n8 sh8 hi8 hl8 hr8 e9 h => ?_)
      refine x_callI (pc' := 65) (S := [.ref n, .int v3, .ref t4]) (As := []) (b' := (2, 0, 0)) dX5_init_62 (Or.inl l_X5_11) m_X6_init rfl rfl (of_decide_eq_true g7).1 (Nat.le_of_ble_eq_true rfl) (Nat.le_of_ble_eq_true rfl) (of_decide_eq_true g7).2.1 (of_decide_eq_true g7).2.2 (rc_X6_init _ _ _ _ _ _ _ e9) rfl ?_
      refine xg_if h (fun g10 h => ?_)
      refine xg_if h (fun g11 h => ?_)
      refine x_aast4 (pc' := 66) dX5_init_65 (xdA_lt g10) (xdA_sh g10) (xdA_in g10) (xdO_lt g11) (xdO_sh g11) rfl ?_
      refine x_iinc (pc' := 69) (v := (v3 + (1))) (L' := [some (.ref v0), d1, (xcl d2), some (.int (v3 + (1)))]) dX5_init_66 rfl rfl (Nat.le_of_ble_eq_true rfl) rfl rfl ?_
      refine x_goto (tgt := 47) dX5_init_69 (by decide) ?_
      exact ih _ _ _ _ _ _ _ _ _ _ _ _ h
def C_X5_init (v0 : Nat) (v1 : Nat) (v2 : Nat) (_ _ : Nat) (n : Nat) (sh : Nat → Nat × Nat) (hi : Nat → Nat → Int32) (hl : Nat → Nat → Int64) (hr : Nat → Nat → Option Nat) : Option xHp := if decide (0 + 1 ≤ 15 ∧ 0 + xnf 5 ≤ 40 ∧ n + 1 ≤ 1000000) = true then if decide (n < (n + 1) ∧ (0 + 1) + 0 ≤ 15 ∧ (0 + xnf 5) + 0 ≤ 40) = true then xbH (C_X6_init n 0 0 (n + 1) (xsu sh n (5 + 5, xnf 5)) (xz hi n 0) (xz hl n 0) (xz hr n none)) (fun n3 sh3 hi3 hl3 hr3 => if xdO n3 sh3 v0 4 = true then if decide (((0 + 1) + 0) + 1 ≤ 15 ∧ ((0 + xnf 5) + 0) + xnf 5 ≤ 40 ∧ n3 + 1 ≤ 1000000) = true then if decide (n3 < (n3 + 1) ∧ (((0 + 1) + 0) + 1) + 0 ≤ 15 ∧ (((0 + xnf 5) + 0) + xnf 5) + 0 ≤ 40) = true then xbH (C_X6_init n3 0 0 (n3 + 1) (xsu sh3 n3 (5 + 5, xnf 5)) (xz hi3 n3 0) (xz hl3 n3 0) (xz (xu hr3 v0 2 (some n)) n3 none)) (fun n8 sh8 hi8 hl8 hr8 => if xdO n8 sh8 v0 4 = true then if decide (((((0 + 1) + 0) + 1) + 0) + 1 ≤ 15 ∧ ((((0 + xnf 5) + 0) + xnf 5) + 0) + 12 ≤ 40 ∧ n8 + 1 ≤ 1000000) = true then if xdO (n8 + 1) (xsu sh8 n8 (4, 12)) v0 4 = true then if xdO (n8 + 1) (xsu sh8 n8 (4, 12)) v0 4 = true then if xdO (n8 + 1) (xsu sh8 n8 (4, 12)) v0 4 = true then C_X5_init_47 1000 v0 (0 : Int32) (((((0 + 1) + 0) + 1) + 0) + 1) (((((0 + xnf 5) + 0) + xnf 5) + 0) + 12) (n8 + 1) (xsu sh8 n8 (4, 12)) (xz hi8 n8 0) (xz hl8 n8 0) (xu (xu (xu (xz (xu hr8 v0 3 (some n3)) n8 none) v0 4 (some n8)) v0 0 (some v1)) v0 1 (some v2)) else none else none else none else none else none) else none else none else none) else none else none
set_option maxRecDepth 20000 in
set_option maxHeartbeats 2000000 in
theorem rc_X5_init (v0 : Nat) (v1 : Nat) (v2 : Nat) (n : Nat) (sh : Nat → Nat × Nat) (hi : Nat → Nat → Int32) (hl : Nat → Nat → Int64) (hr : Nat → Nat → Option Nat) (o : xHp) (h : C_X5_init v0 v1 v2 0 0 n sh hi hl hr = some o) : xM yX5_init cX5_init 4 0 (3, 15, 40) z [.ref v0, .ref v1, .ref v2] (n, sh, hi, hl, hr) (none, o) := by
  refine x_meth2 (C := RX5) (ini := true) (L := [some (.ref v0), some (.ref v1), some (.ref v2), none]) rfl (by decide) (fun _ => rfl) (by decide) (Nat.le_of_ble_eq_true rfl) rfl ?_
  refine x_aload_n (pc' := 1) dX5_init_0 rfl rfl ?_
  refine x_oinit (pc' := 4) dX5_init_1 l_X5_3 w_oii w_oic (Nat.le_of_ble_eq_true rfl) (Nat.le_of_ble_eq_true rfl) rfl ?_
  refine x_aload_n (pc' := 5) dX5_init_4 rfl rfl ?_
  refine xg_if h (fun g1 h => ?_)
  refine x_new (pc' := 8) dX5_init_5 k_X5_9 clsX6 (of_decide_eq_true g1).1 (of_decide_eq_true g1).2.1 (of_decide_eq_true g1).2.2 rfl ?_
  refine x_dup (pc' := 9) dX5_init_8 rfl rfl ?_
  refine xg_if h (fun g2 h => ?_)
  refine xg_bH h (fun n3 sh3 hi3 hl3 hr3 e4 h => ?_)
  refine x_callI (pc' := 12) (S := [.ref n, .ref v0]) (As := []) (b' := (2, 0, 0)) dX5_init_9 (Or.inl l_X5_11) m_X6_init rfl rfl (of_decide_eq_true g2).1 (Nat.le_of_ble_eq_true rfl) (Nat.le_of_ble_eq_true rfl) (of_decide_eq_true g2).2.1 (of_decide_eq_true g2).2.2 (rc_X6_init _ _ _ _ _ _ _ e4) rfl ?_
  refine xg_if h (fun g5 h => ?_)
  refine x_putr (pc' := 15) (Or.inl ⟨_, rfl⟩) dX5_init_12 f_X5_12 (Or.inr ⟨rfl, _, _, rfl⟩) (xdO_lt g5) (xdO_sh g5) rfl rfl ?_
  refine x_aload_n (pc' := 16) dX5_init_15 rfl rfl ?_
  refine xg_if h (fun g6 h => ?_)
  refine x_new (pc' := 19) dX5_init_16 k_X5_9 clsX6 (of_decide_eq_true g6).1 (of_decide_eq_true g6).2.1 (of_decide_eq_true g6).2.2 rfl ?_
  refine x_dup (pc' := 20) dX5_init_19 rfl rfl ?_
  refine xg_if h (fun g7 h => ?_)
  refine xg_bH h (fun n8 sh8 hi8 hl8 hr8 e9 h => ?_)
  refine x_callI (pc' := 23) (S := [.ref n3, .ref v0]) (As := []) (b' := (2, 0, 0)) dX5_init_20 (Or.inl l_X5_11) m_X6_init rfl rfl (of_decide_eq_true g7).1 (Nat.le_of_ble_eq_true rfl) (Nat.le_of_ble_eq_true rfl) (of_decide_eq_true g7).2.1 (of_decide_eq_true g7).2.2 (rc_X6_init _ _ _ _ _ _ _ e9) rfl ?_
  refine xg_if h (fun g10 h => ?_)
  refine x_putr (pc' := 26) (Or.inl ⟨_, rfl⟩) dX5_init_23 f_X5_18 (Or.inr ⟨rfl, _, _, rfl⟩) (xdO_lt g10) (xdO_sh g10) rfl rfl ?_
  refine x_aload_n (pc' := 27) dX5_init_26 rfl rfl ?_
  refine x_bipush (pc' := 29) (x := 12) dX5_init_27 (by decide) rfl ?_
  refine xg_if h (fun g11 h => ?_)
  refine x_newq4 (pc' := 32) (N := 12) dX5_init_29 k_X5_9 (by decide) (by decide) (by decide) (of_decide_eq_true g11).1 (of_decide_eq_true g11).2.1 (of_decide_eq_true g11).2.2 rfl ?_
  refine xg_if h (fun g12 h => ?_)
  refine x_putr (pc' := 35) (Or.inr ⟨_, rfl⟩) dX5_init_32 f_X5_21 (Or.inr ⟨rfl, _, _, rfl⟩) (xdO_lt g12) (xdO_sh g12) rfl rfl ?_
  refine x_aload_n (pc' := 36) dX5_init_35 rfl rfl ?_
  refine x_aload_n (pc' := 37) dX5_init_36 rfl rfl ?_
  refine xg_if h (fun g13 h => ?_)
  refine x_putr (pc' := 40) (Or.inl ⟨_, rfl⟩) dX5_init_37 f_X5_25 (Or.inr ⟨rfl, _, _, rfl⟩) (xdO_lt g13) (xdO_sh g13) rfl rfl ?_
  refine x_aload_n (pc' := 41) dX5_init_40 rfl rfl ?_
  refine x_aload_n (pc' := 42) dX5_init_41 rfl rfl ?_
  refine xg_if h (fun g14 h => ?_)
  refine x_putr (pc' := 45) (Or.inl ⟨_, rfl⟩) dX5_init_42 f_X5_29 (Or.inr ⟨rfl, _, _, rfl⟩) (xdO_lt g14) (xdO_sh g14) rfl rfl ?_
  refine x_iconst (pc' := 46) (x := 0) dX5_init_45 (by decide) rfl ?_
  refine x_istore_n (pc' := 47) (L' := [some (.ref v0), some (.ref v1), some (.ref v2), some (.int (0 : Int32))]) dX5_init_46 (Nat.le_of_ble_eq_true rfl) rfl rfl ?_
  exact rc_X5_init_47 1000 _ _ _ _ _ _ _ _ _ _ _ _ h
def C_X4_init (v0 : Nat) (_ _ : Nat) (n : Nat) (sh : Nat → Nat × Nat) (hi : Nat → Nat → Int32) (hl : Nat → Nat → Int64) (hr : Nat → Nat → Option Nat) : Option xHp := if decide (0 + 1 ≤ 2 ∧ 0 + 80 ≤ 160 ∧ n + 1 ≤ 1000000) = true then if xdO (n + 1) (xsu sh n (0, 80)) v0 3 = true then if decide ((0 + 1) + 1 ≤ 2 ∧ (0 + 80) + 80 ≤ 160 ∧ (n + 1) + 1 ≤ 1000000) = true then if xdO ((n + 1) + 1) (xsu (xsu sh n (0, 80)) (n + 1) (0, 80)) v0 3 = true then if decide (((0 + 1) + 1) = 2 ∧ ((0 + 80) + 80) ≤ 160) = true then some (((n + 1) + 1), (xsu (xsu sh n (0, 80)) (n + 1) (0, 80)), (xz (xz hi n 0) (n + 1) 0), (xz (xz hl n 0) (n + 1) 0), (xu (xz (xu (xz hr n none) v0 0 (some n)) (n + 1) none) v0 1 (some (n + 1)))) else none else none else none else none else none
set_option maxRecDepth 20000 in
set_option maxHeartbeats 2000000 in
theorem rc_X4_init (v0 : Nat) (n : Nat) (sh : Nat → Nat × Nat) (hi : Nat → Nat → Int32) (hl : Nat → Nat → Int64) (hr : Nat → Nat → Option Nat) (o : xHp) (h : C_X4_init v0 0 0 n sh hi hl hr = some o) : xM yX4_init cX4_init 1 0 (2, 2, 160) z [.ref v0] (n, sh, hi, hl, hr) (none, o) := by
  refine x_meth2 (C := RX4) (ini := true) (L := [some (.ref v0)]) rfl (by decide) (fun _ => rfl) (by decide) (Nat.le_of_ble_eq_true rfl) rfl ?_
  refine x_aload_n (pc' := 1) dX4_init_0 rfl rfl ?_
  refine x_oinit (pc' := 4) dX4_init_1 l_X4_3 w_oii w_oic (Nat.le_of_ble_eq_true rfl) (Nat.le_of_ble_eq_true rfl) rfl ?_
  refine x_aload_n (pc' := 5) dX4_init_4 rfl rfl ?_
  refine x_bipush (pc' := 7) (x := 80) dX4_init_5 (by decide) rfl ?_
  refine xg_if h (fun g1 h => ?_)
  refine x_newi (pc' := 9) (N := 80) dX4_init_7 w_aint (by decide) (by decide) (by decide) (of_decide_eq_true g1).1 (of_decide_eq_true g1).2.1 (of_decide_eq_true g1).2.2 rfl ?_
  refine xg_if h (fun g2 h => ?_)
  refine x_putr (pc' := 12) (Or.inr ⟨_, rfl⟩) dX4_init_9 f_X4_11 (Or.inr ⟨rfl, _, _, rfl⟩) (xdO_lt g2) (xdO_sh g2) rfl rfl ?_
  refine x_aload_n (pc' := 13) dX4_init_12 rfl rfl ?_
  refine x_bipush (pc' := 15) (x := 80) dX4_init_13 (by decide) rfl ?_
  refine xg_if h (fun g3 h => ?_)
  refine x_newi (pc' := 17) (N := 80) dX4_init_15 w_aint (by decide) (by decide) (by decide) (of_decide_eq_true g3).1 (of_decide_eq_true g3).2.1 (of_decide_eq_true g3).2.2 rfl ?_
  refine xg_if h (fun g4 h => ?_)
  refine x_putr (pc' := 20) (Or.inr ⟨_, rfl⟩) dX4_init_17 f_X4_15 (Or.inr ⟨rfl, _, _, rfl⟩) (xdO_lt g4) (xdO_sh g4) rfl rfl ?_
  refine xg_if h (fun g5 h => ?_)
  obtain rfl := Option.some.inj h
  exact x_vret dX4_init_20 rfl (of_decide_eq_true g5).1 (of_decide_eq_true g5).2 rfl
def C_X9_init (v0 : Nat) (v1 : Nat) (_ _ : Nat) (n : Nat) (sh : Nat → Nat × Nat) (hi : Nat → Nat → Int32) (hl : Nat → Nat → Int64) (hr : Nat → Nat → Option Nat) : Option xHp := if decide (0 + 1 ≤ 2 ∧ 0 + 3 ≤ 6 ∧ n + 1 ≤ 1000000) = true then if xdO (n + 1) (xsu sh n (0, 3)) v0 8 = true then if decide ((0 + 1) + 1 ≤ 2 ∧ (0 + 3) + 3 ≤ 6 ∧ (n + 1) + 1 ≤ 1000000) = true then if xdO ((n + 1) + 1) (xsu (xsu sh n (0, 3)) (n + 1) (0, 3)) v0 8 = true then if xdO ((n + 1) + 1) (xsu (xsu sh n (0, 3)) (n + 1) (0, 3)) v0 8 = true then if decide (((0 + 1) + 1) = 2 ∧ ((0 + 3) + 3) ≤ 6) = true then some (((n + 1) + 1), (xsu (xsu sh n (0, 3)) (n + 1) (0, 3)), (xz (xz hi n 0) (n + 1) 0), (xz (xz hl n 0) (n + 1) 0), (xu (xu (xz (xu (xz hr n none) v0 1 (some n)) (n + 1) none) v0 2 (some (n + 1))) v0 0 (some v1))) else none else none else none else none else none else none
set_option maxRecDepth 20000 in
set_option maxHeartbeats 2000000 in
theorem rc_X9_init (v0 : Nat) (v1 : Nat) (n : Nat) (sh : Nat → Nat × Nat) (hi : Nat → Nat → Int32) (hl : Nat → Nat → Int64) (hr : Nat → Nat → Option Nat) (o : xHp) (h : C_X9_init v0 v1 0 0 n sh hi hl hr = some o) : xM yX9_init cX9_init 2 0 (2, 2, 6) z [.ref v0, .ref v1] (n, sh, hi, hl, hr) (none, o) := by
  refine x_meth2 (C := RX9) (ini := true) (L := [some (.ref v0), some (.ref v1)]) rfl (by decide) (fun _ => rfl) (by decide) (Nat.le_of_ble_eq_true rfl) rfl ?_
  refine x_aload_n (pc' := 1) dX9_init_0 rfl rfl ?_
  refine x_oinit (pc' := 4) dX9_init_1 l_X9_3 w_oii w_oic (Nat.le_of_ble_eq_true rfl) (Nat.le_of_ble_eq_true rfl) rfl ?_
  refine x_aload_n (pc' := 5) dX9_init_4 rfl rfl ?_
  refine x_iconst (pc' := 6) (x := 3) dX9_init_5 (by decide) rfl ?_
  refine xg_if h (fun g1 h => ?_)
  refine x_newi (pc' := 8) (N := 3) dX9_init_6 w_aint (by decide) (by decide) (by decide) (of_decide_eq_true g1).1 (of_decide_eq_true g1).2.1 (of_decide_eq_true g1).2.2 rfl ?_
  refine xg_if h (fun g2 h => ?_)
  refine x_putr (pc' := 11) (Or.inr ⟨_, rfl⟩) dX9_init_8 f_X9_9 (Or.inr ⟨rfl, _, _, rfl⟩) (xdO_lt g2) (xdO_sh g2) rfl rfl ?_
  refine x_aload_n (pc' := 12) dX9_init_11 rfl rfl ?_
  refine x_iconst (pc' := 13) (x := 3) dX9_init_12 (by decide) rfl ?_
  refine xg_if h (fun g3 h => ?_)
  refine x_newi (pc' := 15) (N := 3) dX9_init_13 w_aint (by decide) (by decide) (by decide) (of_decide_eq_true g3).1 (of_decide_eq_true g3).2.1 (of_decide_eq_true g3).2.2 rfl ?_
  refine xg_if h (fun g4 h => ?_)
  refine x_putr (pc' := 18) (Or.inr ⟨_, rfl⟩) dX9_init_15 f_X9_15 (Or.inr ⟨rfl, _, _, rfl⟩) (xdO_lt g4) (xdO_sh g4) rfl rfl ?_
  refine x_aload_n (pc' := 19) dX9_init_18 rfl rfl ?_
  refine x_aload_n (pc' := 20) dX9_init_19 rfl rfl ?_
  refine xg_if h (fun g5 h => ?_)
  refine x_putr (pc' := 23) (Or.inl ⟨_, rfl⟩) dX9_init_20 f_X9_18 (Or.inr ⟨rfl, _, _, rfl⟩) (xdO_lt g5) (xdO_sh g5) rfl rfl ?_
  refine xg_if h (fun g6 h => ?_)
  obtain rfl := Option.some.inj h
  exact x_vret dX9_init_23 rfl (of_decide_eq_true g6).1 (of_decide_eq_true g6).2 rfl
def C_X10_init (v0 : Nat) (v1 : Nat) (v2 : Nat) (_ _ : Nat) (n : Nat) (sh : Nat → Nat × Nat) (hi : Nat → Nat → Int32) (hl : Nat → Nat → Int64) (hr : Nat → Nat → Option Nat) : Option xHp := if decide (0 + 1 ≤ 4 ∧ 0 + 16 ≤ 64 ∧ n + 1 ≤ 1000000) = true then if xdO (n + 1) (xsu sh n (0, 16)) v0 9 = true then if decide ((0 + 1) + 1 ≤ 4 ∧ (0 + 16) + 16 ≤ 64 ∧ (n + 1) + 1 ≤ 1000000) = true then if xdO ((n + 1) + 1) (xsu (xsu sh n (0, 16)) (n + 1) (0, 16)) v0 9 = true then if decide (((0 + 1) + 1) + 1 ≤ 4 ∧ ((0 + 16) + 16) + 16 ≤ 64 ∧ ((n + 1) + 1) + 1 ≤ 1000000) = true then if xdO (((n + 1) + 1) + 1) (xsu (xsu (xsu sh n (0, 16)) (n + 1) (0, 16)) ((n + 1) + 1) (0, 16)) v0 9 = true then if decide ((((0 + 1) + 1) + 1) + 1 ≤ 4 ∧ (((0 + 16) + 16) + 16) + 16 ≤ 64 ∧ (((n + 1) + 1) + 1) + 1 ≤ 1000000) = true then if xdO ((((n + 1) + 1) + 1) + 1) (xsu (xsu (xsu (xsu sh n (0, 16)) (n + 1) (0, 16)) ((n + 1) + 1) (0, 16)) (((n + 1) + 1) + 1) (0, 16)) v0 9 = true then if xdO ((((n + 1) + 1) + 1) + 1) (xsu (xsu (xsu (xsu sh n (0, 16)) (n + 1) (0, 16)) ((n + 1) + 1) (0, 16)) (((n + 1) + 1) + 1) (0, 16)) v0 9 = true then if xdO ((((n + 1) + 1) + 1) + 1) (xsu (xsu (xsu (xsu sh n (0, 16)) (n + 1) (0, 16)) ((n + 1) + 1) (0, 16)) (((n + 1) + 1) + 1) (0, 16)) v0 9 = true then if decide (((((0 + 1) + 1) + 1) + 1) = 4 ∧ ((((0 + 16) + 16) + 16) + 16) ≤ 64) = true then some (((((n + 1) + 1) + 1) + 1), (xsu (xsu (xsu (xsu sh n (0, 16)) (n + 1) (0, 16)) ((n + 1) + 1) (0, 16)) (((n + 1) + 1) + 1) (0, 16)), (xz (xz (xz (xz hi n 0) (n + 1) 0) ((n + 1) + 1) 0) (((n + 1) + 1) + 1) 0), (xz (xz (xz (xz hl n 0) (n + 1) 0) ((n + 1) + 1) 0) (((n + 1) + 1) + 1) 0), (xu (xu (xu (xz (xu (xz (xu (xz (xu (xz hr n none) v0 2 (some n)) (n + 1) none) v0 3 (some (n + 1))) ((n + 1) + 1) none) v0 4 (some ((n + 1) + 1))) (((n + 1) + 1) + 1) none) v0 5 (some (((n + 1) + 1) + 1))) v0 0 (some v1)) v0 1 (some v2))) else none else none else none else none else none else none else none else none else none else none else none
set_option maxRecDepth 20000 in
set_option maxHeartbeats 2000000 in
theorem rc_X10_init (v0 : Nat) (v1 : Nat) (v2 : Nat) (n : Nat) (sh : Nat → Nat × Nat) (hi : Nat → Nat → Int32) (hl : Nat → Nat → Int64) (hr : Nat → Nat → Option Nat) (o : xHp) (h : C_X10_init v0 v1 v2 0 0 n sh hi hl hr = some o) : xM yX10_init cX10_init 3 0 (2, 4, 64) z [.ref v0, .ref v1, .ref v2] (n, sh, hi, hl, hr) (none, o) := by
  refine x_meth2 (C := RX10) (ini := true) (L := [some (.ref v0), some (.ref v1), some (.ref v2)]) rfl (by decide) (fun _ => rfl) (by decide) (Nat.le_of_ble_eq_true rfl) rfl ?_
  refine x_aload_n (pc' := 1) dX10_init_0 rfl rfl ?_
  refine x_oinit (pc' := 4) dX10_init_1 l_X10_3 w_oii w_oic (Nat.le_of_ble_eq_true rfl) (Nat.le_of_ble_eq_true rfl) rfl ?_
  refine x_aload_n (pc' := 5) dX10_init_4 rfl rfl ?_
  refine x_bipush (pc' := 7) (x := 16) dX10_init_5 (by decide) rfl ?_
  refine xg_if h (fun g1 h => ?_)
  refine x_newi (pc' := 9) (N := 16) dX10_init_7 w_aint (by decide) (by decide) (by decide) (of_decide_eq_true g1).1 (of_decide_eq_true g1).2.1 (of_decide_eq_true g1).2.2 rfl ?_
  refine xg_if h (fun g2 h => ?_)
  refine x_putr (pc' := 12) (Or.inr ⟨_, rfl⟩) dX10_init_9 f_X10_9 (Or.inr ⟨rfl, _, _, rfl⟩) (xdO_lt g2) (xdO_sh g2) rfl rfl ?_
  refine x_aload_n (pc' := 13) dX10_init_12 rfl rfl ?_
  refine x_bipush (pc' := 15) (x := 16) dX10_init_13 (by decide) rfl ?_
  refine xg_if h (fun g3 h => ?_)
  refine x_newi (pc' := 17) (N := 16) dX10_init_15 w_aint (by decide) (by decide) (by decide) (of_decide_eq_true g3).1 (of_decide_eq_true g3).2.1 (of_decide_eq_true g3).2.2 rfl ?_
  refine xg_if h (fun g4 h => ?_)
  refine x_putr (pc' := 20) (Or.inr ⟨_, rfl⟩) dX10_init_17 f_X10_15 (Or.inr ⟨rfl, _, _, rfl⟩) (xdO_lt g4) (xdO_sh g4) rfl rfl ?_
  refine x_aload_n (pc' := 21) dX10_init_20 rfl rfl ?_
  refine x_bipush (pc' := 23) (x := 16) dX10_init_21 (by decide) rfl ?_
  refine xg_if h (fun g5 h => ?_)
  refine x_newi (pc' := 25) (N := 16) dX10_init_23 w_aint (by decide) (by decide) (by decide) (of_decide_eq_true g5).1 (of_decide_eq_true g5).2.1 (of_decide_eq_true g5).2.2 rfl ?_
  refine xg_if h (fun g6 h => ?_)
  refine x_putr (pc' := 28) (Or.inr ⟨_, rfl⟩) dX10_init_25 f_X10_18 (Or.inr ⟨rfl, _, _, rfl⟩) (xdO_lt g6) (xdO_sh g6) rfl rfl ?_
  refine x_aload_n (pc' := 29) dX10_init_28 rfl rfl ?_
  refine x_bipush (pc' := 31) (x := 16) dX10_init_29 (by decide) rfl ?_
  refine xg_if h (fun g7 h => ?_)
  refine x_newi (pc' := 33) (N := 16) dX10_init_31 w_aint (by decide) (by decide) (by decide) (of_decide_eq_true g7).1 (of_decide_eq_true g7).2.1 (of_decide_eq_true g7).2.2 rfl ?_
  refine xg_if h (fun g8 h => ?_)
  refine x_putr (pc' := 36) (Or.inr ⟨_, rfl⟩) dX10_init_33 f_X10_21 (Or.inr ⟨rfl, _, _, rfl⟩) (xdO_lt g8) (xdO_sh g8) rfl rfl ?_
  refine x_aload_n (pc' := 37) dX10_init_36 rfl rfl ?_
  refine x_aload_n (pc' := 38) dX10_init_37 rfl rfl ?_
  refine xg_if h (fun g9 h => ?_)
  refine x_putr (pc' := 41) (Or.inl ⟨_, rfl⟩) dX10_init_38 f_X10_24 (Or.inr ⟨rfl, _, _, rfl⟩) (xdO_lt g9) (xdO_sh g9) rfl rfl ?_
  refine x_aload_n (pc' := 42) dX10_init_41 rfl rfl ?_
  refine x_aload_n (pc' := 43) dX10_init_42 rfl rfl ?_
  refine xg_if h (fun g10 h => ?_)
  refine x_putr (pc' := 46) (Or.inl ⟨_, rfl⟩) dX10_init_43 f_X10_28 (Or.inr ⟨rfl, _, _, rfl⟩) (xdO_lt g10) (xdO_sh g10) rfl rfl ?_
  refine xg_if h (fun g11 h => ?_)
  obtain rfl := Option.some.inj h
  exact x_vret dX10_init_46 rfl (of_decide_eq_true g11).1 (of_decide_eq_true g11).2 rfl
def C_X2_init (v0 : Nat) (_ _ : Nat) (n : Nat) (sh : Nat → Nat × Nat) (hi : Nat → Nat → Int32) (hl : Nat → Nat → Int64) (hr : Nat → Nat → Option Nat) : Option xHp := if decide (0 + 1 ≤ 2 ∧ 0 + 72 ≤ 144 ∧ n + 1 ≤ 1000000) = true then if xdO (n + 1) (xsu sh n (0, 72)) v0 2 = true then if decide ((0 + 1) + 1 ≤ 2 ∧ (0 + 72) + 72 ≤ 144 ∧ (n + 1) + 1 ≤ 1000000) = true then if xdO ((n + 1) + 1) (xsu (xsu sh n (0, 72)) (n + 1) (1, 72)) v0 2 = true then if xdO ((n + 1) + 1) (xsu (xsu sh n (0, 72)) (n + 1) (1, 72)) v0 2 = true then if decide (((0 + 1) + 1) = 2 ∧ ((0 + 72) + 72) ≤ 144) = true then some (((n + 1) + 1), (xsu (xsu sh n (0, 72)) (n + 1) (1, 72)), (xu (xz (xz hi n 0) (n + 1) 0) v0 2 ((-20) : Int32)), (xz (xz hl n 0) (n + 1) 0), (xu (xz (xu (xz hr n none) v0 0 (some n)) (n + 1) none) v0 1 (some (n + 1)))) else none else none else none else none else none else none
set_option maxRecDepth 20000 in
set_option maxHeartbeats 2000000 in
theorem rc_X2_init (v0 : Nat) (n : Nat) (sh : Nat → Nat × Nat) (hi : Nat → Nat → Int32) (hl : Nat → Nat → Int64) (hr : Nat → Nat → Option Nat) (o : xHp) (h : C_X2_init v0 0 0 n sh hi hl hr = some o) : xM yX2_init cX2_init 1 0 (2, 2, 144) z [.ref v0] (n, sh, hi, hl, hr) (none, o) := by
  refine x_meth2 (C := RX2) (ini := true) (L := [some (.ref v0)]) rfl (by decide) (fun _ => rfl) (by decide) (Nat.le_of_ble_eq_true rfl) rfl ?_
  refine x_aload_n (pc' := 1) dX2_init_0 rfl rfl ?_
  refine x_oinit (pc' := 4) dX2_init_1 l_X2_3 w_oii w_oic (Nat.le_of_ble_eq_true rfl) (Nat.le_of_ble_eq_true rfl) rfl ?_
  refine x_aload_n (pc' := 5) dX2_init_4 rfl rfl ?_
  refine x_bipush (pc' := 7) (x := 72) dX2_init_5 (by decide) rfl ?_
  refine xg_if h (fun g1 h => ?_)
  refine x_newi (pc' := 9) (N := 72) dX2_init_7 w_aint (by decide) (by decide) (by decide) (of_decide_eq_true g1).1 (of_decide_eq_true g1).2.1 (of_decide_eq_true g1).2.2 rfl ?_
  refine xg_if h (fun g2 h => ?_)
  refine x_putr (pc' := 12) (Or.inr ⟨_, rfl⟩) dX2_init_9 f_X2_9 (Or.inr ⟨rfl, _, _, rfl⟩) (xdO_lt g2) (xdO_sh g2) rfl rfl ?_
  refine x_aload_n (pc' := 13) dX2_init_12 rfl rfl ?_
  refine x_bipush (pc' := 15) (x := 72) dX2_init_13 (by decide) rfl ?_
  refine xg_if h (fun g3 h => ?_)
  refine x_newl (pc' := 17) (N := 72) dX2_init_15 w_along (by decide) (by decide) (by decide) (of_decide_eq_true g3).1 (of_decide_eq_true g3).2.1 (of_decide_eq_true g3).2.2 rfl ?_
  refine xg_if h (fun g4 h => ?_)
  refine x_putr (pc' := 20) (Or.inr ⟨_, rfl⟩) dX2_init_17 f_X2_15 (Or.inr ⟨rfl, _, _, rfl⟩) (xdO_lt g4) (xdO_sh g4) rfl rfl ?_
  refine x_aload_n (pc' := 21) dX2_init_20 rfl rfl ?_
  refine x_bipush (pc' := 23) (x := (-20)) dX2_init_21 (by decide) rfl ?_
  refine xg_if h (fun g5 h => ?_)
  refine x_puti (pc' := 26) dX2_init_23 f_X2_19 (Or.inl rfl) (xdO_lt g5) (xdO_sh g5) rfl rfl ?_
  refine xg_if h (fun g6 h => ?_)
  obtain rfl := Option.some.inj h
  exact x_vret dX2_init_26 rfl (of_decide_eq_true g6).1 (of_decide_eq_true g6).2 rfl
def C_X1_init_26 : Nat → Nat → Int32 → Nat → Nat → Nat → (Nat → Nat × Nat) → (Nat → Nat → Int32) → (Nat → Nat → Int64) → (Nat → Nat → Option Nat) → Option xHp
  | 0, _, _, _, _, _, _, _, _, _ => none
  | f + 1, v0, v1, k, q, n, sh, hi, hl, hr => if (10 : Int32) ≤ v1 then if decide (k = 34 ∧ q ≤ 1627) = true then some (n, sh, hi, hl, hr) else none else if xdO n sh v0 1 = true then xbO (hr v0 0) (fun t4 => if decide (k + 1 ≤ 34 ∧ q + xnf 2 ≤ 1627 ∧ n + 1 ≤ 1000000) = true then if decide (n < (n + 1) ∧ (k + 1) + 2 ≤ 34 ∧ (q + xnf 2) + 144 ≤ 1627) = true then xbH (C_X2_init n 0 0 (n + 1) (xsu sh n (2 + 5, xnf 2)) (xz hi n 0) (xz hl n 0) (xz hr n none)) (fun n8 sh8 hi8 hl8 hr8 => if xdA n8 sh8 t4 3 v1 = true then if xdO n8 sh8 n 2 = true then (C_X1_init_26 f) v0 (v1 + (1)) ((k + 1) + 2) ((q + xnf 2) + 144) n8 sh8 hi8 hl8 (xu hr8 t4 (Int32.toNatClampNeg v1) (some n)) else none else none) else none else none) else none
set_option maxRecDepth 20000 in
set_option maxHeartbeats 2000000 in
theorem rc_X1_init_26 : ∀ (f : Nat) (v0 : Nat) (v1 : Int32) (k q n : Nat) (sh : Nat → Nat × Nat) (hi : Nat → Nat → Int32) (hl : Nat → Nat → Int64) (hr : Nat → Nat → Option Nat) (o : xHp), C_X1_init_26 f v0 v1 k q n sh hi hl hr = some o → xR (RX1, cX1_init, 2, true, 0) (3, 34, 1627) z k q 26 [some (.ref v0), some (.int v1)] [] (n, sh, hi, hl, hr) (none, o) := by
  intro f
  induction f with
  | zero =>
    intro v0 v1 k q n sh hi hl hr o h
    have h : none = some o := h
    cases h
  | succ f ih =>
    intro v0 v1 k q n sh hi hl hr o h
    refine x_iload_n (pc' := 27) dX1_init_26 rfl rfl ?_
    refine x_bipush (pc' := 29) (x := 10) dX1_init_27 (by decide) rfl ?_
    refine xg_ite h (fun g1 h => ?_) (fun g1 h => ?_)
    · refine x_icmp_ge (tgt := 51) (pc' := 32) dX1_init_29 (by decide) rfl (fun _ => ?_) (fun hn => absurd g1 hn)
      refine xg_if h (fun g2 h => ?_)
      obtain rfl := Option.some.inj h
      exact x_vret dX1_init_51 rfl (of_decide_eq_true g2).1 (of_decide_eq_true g2).2 rfl
    · refine x_icmp_ge (tgt := 51) (pc' := 32) dX1_init_29 (by decide) rfl (fun hn => absurd hn g1) (fun _ => ?_)
      refine x_aload_n (pc' := 33) dX1_init_32 rfl rfl ?_
      refine xg_if h (fun g3 h => ?_)
      refine xg_bO h (fun t4 e5 h => ?_)
      refine x_getr (pc' := 36) (t := t4) dX1_init_33 f_X1_11 (xdO_lt g3) (xdO_sh g3) rfl e5 rfl ?_
      refine x_iload_n (pc' := 37) dX1_init_36 rfl rfl ?_
      refine xg_if h (fun g6 h => ?_)
      refine x_new (pc' := 40) dX1_init_37 k_X1_9 clsX2 (of_decide_eq_true g6).1 (of_decide_eq_true g6).2.1 (of_decide_eq_true g6).2.2 rfl ?_
      refine x_dup (pc' := 41) dX1_init_40 rfl rfl ?_
      refine xg_if h (fun g7 h => ?_)
      refine xg_bH h (fun n8 sh8 hi8 hl8 hr8 e9 h => ?_)
      refine x_callI (pc' := 44) (S := [.ref n, .int v1, .ref t4]) (As := []) (b' := (2, 2, 144)) dX1_init_41 (Or.inr ⟨RX11, List.mem_of_getElem? (i := 2) rfl⟩) m_X2_init rfl rfl (of_decide_eq_true g7).1 (Nat.le_of_ble_eq_true rfl) (Nat.le_of_ble_eq_true rfl) (of_decide_eq_true g7).2.1 (of_decide_eq_true g7).2.2 (rc_X2_init _ _ _ _ _ _ _ e9) rfl ?_
      refine xg_if h (fun g10 h => ?_)
      refine xg_if h (fun g11 h => ?_)
      refine x_aast3 (pc' := 45) dX1_init_44 (xdA_lt g10) (xdA_sh g10) (xdA_in g10) (xdO_lt g11) (xdO_sh g11) rfl ?_
      refine x_iinc (pc' := 48) (v := (v1 + (1))) (L' := [some (.ref v0), some (.int (v1 + (1)))]) dX1_init_45 rfl rfl (Nat.le_of_ble_eq_true rfl) rfl rfl ?_
      refine x_goto (tgt := 26) dX1_init_48 (by decide) ?_
      exact ih _ _ _ _ _ _ _ _ _ _ h
def C_X1_init (v0 : Nat) (_ _ : Nat) (n : Nat) (sh : Nat → Nat × Nat) (hi : Nat → Nat → Int32) (hl : Nat → Nat → Int64) (hr : Nat → Nat → Option Nat) : Option xHp := if decide (0 + 1 ≤ 34 ∧ 0 + 10 ≤ 1627 ∧ n + 1 ≤ 1000000) = true then if xdO (n + 1) (xsu sh n (3, 10)) v0 1 = true then if decide ((0 + 1) + 1 ≤ 34 ∧ (0 + 10) + xnf 2 ≤ 1627 ∧ (n + 1) + 1 ≤ 1000000) = true then if decide ((n + 1) < ((n + 1) + 1) ∧ ((0 + 1) + 1) + 2 ≤ 34 ∧ ((0 + 10) + xnf 2) + 144 ≤ 1627) = true then xbH (C_X2_init (n + 1) 0 0 ((n + 1) + 1) (xsu (xsu sh n (3, 10)) (n + 1) (2 + 5, xnf 2)) (xz (xz hi n 0) (n + 1) 0) (xz (xz hl n 0) (n + 1) 0) (xz (xu (xz hr n none) v0 0 (some n)) (n + 1) none)) (fun n5 sh5 hi5 hl5 hr5 => if xdO n5 sh5 v0 1 = true then C_X1_init_26 1000 v0 (0 : Int32) (((0 + 1) + 1) + 2) (((0 + 10) + xnf 2) + 144) n5 sh5 hi5 hl5 (xu hr5 v0 1 (some (n + 1))) else none) else none else none else none else none
set_option maxRecDepth 20000 in
set_option maxHeartbeats 2000000 in
theorem rc_X1_init (v0 : Nat) (n : Nat) (sh : Nat → Nat × Nat) (hi : Nat → Nat → Int32) (hl : Nat → Nat → Int64) (hr : Nat → Nat → Option Nat) (o : xHp) (h : C_X1_init v0 0 0 n sh hi hl hr = some o) : xM yX1_init cX1_init 2 0 (3, 34, 1627) z [.ref v0] (n, sh, hi, hl, hr) (none, o) := by
  refine x_meth2 (C := RX1) (ini := true) (L := [some (.ref v0), none]) rfl (by decide) (fun _ => rfl) (by decide) (Nat.le_of_ble_eq_true rfl) rfl ?_
  refine x_aload_n (pc' := 1) dX1_init_0 rfl rfl ?_
  refine x_oinit (pc' := 4) dX1_init_1 l_X1_3 w_oii w_oic (Nat.le_of_ble_eq_true rfl) (Nat.le_of_ble_eq_true rfl) rfl ?_
  refine x_aload_n (pc' := 5) dX1_init_4 rfl rfl ?_
  refine x_bipush (pc' := 7) (x := 10) dX1_init_5 (by decide) rfl ?_
  refine xg_if h (fun g1 h => ?_)
  refine x_newq3 (pc' := 10) (N := 10) dX1_init_7 k_X1_9 (by decide) (by decide) (by decide) (of_decide_eq_true g1).1 (of_decide_eq_true g1).2.1 (of_decide_eq_true g1).2.2 rfl ?_
  refine xg_if h (fun g2 h => ?_)
  refine x_putr (pc' := 13) (Or.inr ⟨_, rfl⟩) dX1_init_10 f_X1_11 (Or.inr ⟨rfl, _, _, rfl⟩) (xdO_lt g2) (xdO_sh g2) rfl rfl ?_
  refine x_aload_n (pc' := 14) dX1_init_13 rfl rfl ?_
  refine xg_if h (fun g3 h => ?_)
  refine x_new (pc' := 17) dX1_init_14 k_X1_9 clsX2 (of_decide_eq_true g3).1 (of_decide_eq_true g3).2.1 (of_decide_eq_true g3).2.2 rfl ?_
  refine x_dup (pc' := 18) dX1_init_17 rfl rfl ?_
  refine xg_if h (fun g4 h => ?_)
  refine xg_bH h (fun n5 sh5 hi5 hl5 hr5 e6 h => ?_)
  refine x_callI (pc' := 21) (S := [.ref (n + 1), .ref v0]) (As := []) (b' := (2, 2, 144)) dX1_init_18 (Or.inr ⟨RX11, List.mem_of_getElem? (i := 2) rfl⟩) m_X2_init rfl rfl (of_decide_eq_true g4).1 (Nat.le_of_ble_eq_true rfl) (Nat.le_of_ble_eq_true rfl) (of_decide_eq_true g4).2.1 (of_decide_eq_true g4).2.2 (rc_X2_init _ _ _ _ _ _ _ e6) rfl ?_
  refine xg_if h (fun g7 h => ?_)
  refine x_putr (pc' := 24) (Or.inl ⟨_, rfl⟩) dX1_init_21 f_X1_18 (Or.inl rfl) (xdO_lt g7) (xdO_sh g7) rfl rfl ?_
  refine x_iconst (pc' := 25) (x := 0) dX1_init_24 (by decide) rfl ?_
  refine x_istore_n (pc' := 26) (L' := [some (.ref v0), some (.int (0 : Int32))]) dX1_init_25 (Nat.le_of_ble_eq_true rfl) rfl rfl ?_
  exact rc_X1_init_26 1000 _ _ _ _ _ _ _ _ _ _ h
def C_X7_init_55 (K21 : Nat → Int32 → Nat → Nat → Nat → (Nat → Nat × Nat) → (Nat → Nat → Int32) → (Nat → Nat → Int64) → (Nat → Nat → Option Nat) → Option xHp) (K29 : Nat → Int32 → Int32 → Nat → Nat → Nat → (Nat → Nat × Nat) → (Nat → Nat → Int32) → (Nat → Nat → Int64) → (Nat → Nat → Option Nat) → Option xHp) (v0 : Nat) (v1 : Int32) (v2 : Int32) (k q n : Nat) (sh : Nat → Nat × Nat) (hi : Nat → Nat → Int32) (hl : Nat → Nat → Int64) (hr : Nat → Nat → Option Nat) : Option xHp := K29 v0 v1 (v2 + (1)) k q n sh hi hl hr
set_option maxRecDepth 20000 in
set_option maxHeartbeats 2000000 in
theorem rc_X7_init_55 (K21 : Nat → Int32 → Nat → Nat → Nat → (Nat → Nat × Nat) → (Nat → Nat → Int32) → (Nat → Nat → Int64) → (Nat → Nat → Option Nat) → Option xHp) (hK21 : ∀ (v0 : Nat) (v1 : Int32) (d2 : Option Value) (k q n : Nat) (sh : Nat → Nat × Nat) (hi : Nat → Nat → Int32) (hl : Nat → Nat → Int64) (hr : Nat → Nat → Option Nat) (o : xHp), K21 v0 v1 k q n sh hi hl hr = some o → xR (RX7, cX7_init, 3, true, 0) (3, 1, 26) z k q 21 [some (.ref v0), some (.int v1), d2] [] (n, sh, hi, hl, hr) (none, o)) (K29 : Nat → Int32 → Int32 → Nat → Nat → Nat → (Nat → Nat × Nat) → (Nat → Nat → Int32) → (Nat → Nat → Int64) → (Nat → Nat → Option Nat) → Option xHp) (hK29 : ∀ (v0 : Nat) (v1 : Int32) (v2 : Int32) (k q n : Nat) (sh : Nat → Nat × Nat) (hi : Nat → Nat → Int32) (hl : Nat → Nat → Int64) (hr : Nat → Nat → Option Nat) (o : xHp), K29 v0 v1 v2 k q n sh hi hl hr = some o → xR (RX7, cX7_init, 3, true, 0) (3, 1, 26) z k q 29 [some (.ref v0), some (.int v1), some (.int v2)] [] (n, sh, hi, hl, hr) (none, o)) (v0 : Nat) (v1 : Int32) (v2 : Int32) (k q n : Nat) (sh : Nat → Nat × Nat) (hi : Nat → Nat → Int32) (hl : Nat → Nat → Int64) (hr : Nat → Nat → Option Nat) (o : xHp) (h : C_X7_init_55 K21 K29 v0 v1 v2 k q n sh hi hl hr = some o) : xR (RX7, cX7_init, 3, true, 0) (3, 1, 26) z k q 55 [some (.ref v0), some (.int v1), some (.int v2)] [] (n, sh, hi, hl, hr) (none, o) := by
  refine x_iinc (pc' := 58) (v := (v2 + (1))) (L' := [some (.ref v0), some (.int v1), some (.int (v2 + (1)))]) dX7_init_55 rfl rfl (Nat.le_of_ble_eq_true rfl) rfl rfl ?_
  refine x_goto (tgt := 29) dX7_init_58 (by decide) ?_
  exact hK29 _ _ _ _ _ _ _ _ _ _ _ h
def C_X7_init_29 (K21 : Nat → Int32 → Nat → Nat → Nat → (Nat → Nat × Nat) → (Nat → Nat → Int32) → (Nat → Nat → Int64) → (Nat → Nat → Option Nat) → Option xHp) : Nat → Nat → Int32 → Int32 → Nat → Nat → Nat → (Nat → Nat × Nat) → (Nat → Nat → Int32) → (Nat → Nat → Int64) → (Nat → Nat → Option Nat) → Option xHp
  | 0, _, _, _, _, _, _, _, _, _, _ => none
  | f + 1, v0, v1, v2, k, q, n, sh, hi, hl, hr => if (10 : Int32) < v2 then K21 v0 (v1 + (1)) k q n sh hi hl hr else if decide (k ≤ 1 ∧ q ≤ 26) = true then xbP (F_X7_tried v1 v2) (fun w2 => if w2 = 0 then if xdO n sh v0 6 = true then xbO (hr v0 0) (fun t7 => if xdA n sh t7 0 v1 = true then if xdA n sh t7 0 v1 = true then C_X7_init_55 K21 (C_X7_init_29 K21 f) v0 v1 v2 k q n sh (xu hi t7 (Int32.toNatClampNeg v1) ((hi t7 (Int32.toNatClampNeg v1)) ||| ((1 : Int32) <<< (v2 &&& 31)))) hl hr else none else none) else none else C_X7_init_55 K21 (C_X7_init_29 K21 f) v0 v1 v2 k q n sh hi hl hr) else none
set_option maxRecDepth 20000 in
set_option maxHeartbeats 2000000 in
theorem rc_X7_init_29 (K21 : Nat → Int32 → Nat → Nat → Nat → (Nat → Nat × Nat) → (Nat → Nat → Int32) → (Nat → Nat → Int64) → (Nat → Nat → Option Nat) → Option xHp) (hK21 : ∀ (v0 : Nat) (v1 : Int32) (d2 : Option Value) (k q n : Nat) (sh : Nat → Nat × Nat) (hi : Nat → Nat → Int32) (hl : Nat → Nat → Int64) (hr : Nat → Nat → Option Nat) (o : xHp), K21 v0 v1 k q n sh hi hl hr = some o → xR (RX7, cX7_init, 3, true, 0) (3, 1, 26) z k q 21 [some (.ref v0), some (.int v1), d2] [] (n, sh, hi, hl, hr) (none, o)) : ∀ (f : Nat) (v0 : Nat) (v1 : Int32) (v2 : Int32) (k q n : Nat) (sh : Nat → Nat × Nat) (hi : Nat → Nat → Int32) (hl : Nat → Nat → Int64) (hr : Nat → Nat → Option Nat) (o : xHp), C_X7_init_29 K21 f v0 v1 v2 k q n sh hi hl hr = some o → xR (RX7, cX7_init, 3, true, 0) (3, 1, 26) z k q 29 [some (.ref v0), some (.int v1), some (.int v2)] [] (n, sh, hi, hl, hr) (none, o) := by
  intro f
  induction f with
  | zero =>
    intro v0 v1 v2 k q n sh hi hl hr o h
    have h : none = some o := h
    cases h
  | succ f ih =>
    intro v0 v1 v2 k q n sh hi hl hr o h
    refine x_iload_n (pc' := 30) dX7_init_29 rfl rfl ?_
    refine x_bipush (pc' := 32) (x := 10) dX7_init_30 (by decide) rfl ?_
    refine xg_ite h (fun g1 h => ?_) (fun g1 h => ?_)
    · refine x_icmp_gt (tgt := 61) (pc' := 35) dX7_init_32 (by decide) rfl (fun _ => ?_) (fun hn => absurd g1 hn)
      refine x_iinc (pc' := 64) (v := (v1 + (1))) (L' := [some (.ref v0), some (.int (v1 + (1))), some (.int v2)]) dX7_init_61 rfl rfl (Nat.le_of_ble_eq_true rfl) rfl rfl ?_
      refine x_goto (tgt := 21) dX7_init_64 (by decide) ?_
      exact hK21 _ _ _ _ _ _ _ _ _ _ _ h
    · refine x_icmp_gt (tgt := 61) (pc' := 35) dX7_init_32 (by decide) rfl (fun hn => absurd hn g1) (fun _ => ?_)
      refine x_iload_n (pc' := 36) dX7_init_35 rfl rfl ?_
      refine x_iload_n (pc' := 37) dX7_init_36 rfl rfl ?_
      refine xg_if h (fun g4 h => ?_)
      refine xg_bP h (fun w2 e3 h => ?_)
      refine x_callS (pc' := 40) (S := []) (As := [.int v1, .int v2]) (b' := (1, 0, 0)) dX7_init_37 l_X7_19 m_X7_tried rfl rfl (Nat.le_of_ble_eq_true rfl) (Nat.le_of_ble_eq_true rfl) (of_decide_eq_true g4).1 (of_decide_eq_true g4).2 (r_X7_tried _ _ _ _ e3) rfl ?_
      refine xg_ite h (fun g5 h => ?_) (fun g5 h => ?_)
      · refine x_if_ne (tgt := 55) (pc' := 43) dX7_init_40 (by decide) rfl (fun hn => absurd g5 hn) (fun _ => ?_)
        refine x_aload_n (pc' := 44) dX7_init_43 rfl rfl ?_
        refine xg_if h (fun g6 h => ?_)
        refine xg_bO h (fun t7 e8 h => ?_)
        refine x_getr (pc' := 47) (t := t7) dX7_init_44 f_X7_11 (xdO_lt g6) (xdO_sh g6) rfl e8 rfl ?_
        refine x_iload_n (pc' := 48) dX7_init_47 rfl rfl ?_
        refine x_dup2 (pc' := 49) dX7_init_48 rfl rfl rfl ?_
        refine xg_if h (fun g9 h => ?_)
        refine x_iald (pc' := 50) dX7_init_49 (xdA_lt g9) (xdA_sh g9) (xdA_in g9) rfl ?_
        refine x_iconst (pc' := 51) (x := 1) dX7_init_50 (by decide) rfl ?_
        refine x_iload_n (pc' := 52) dX7_init_51 rfl rfl ?_
        refine x_ishl (pc' := 53) dX7_init_52 rfl ?_
        refine x_ior (pc' := 54) dX7_init_53 rfl ?_
        refine xg_if h (fun g10 h => ?_)
        refine x_iast (pc' := 55) dX7_init_54 (xdA_lt g10) (xdA_sh g10) (xdA_in g10) rfl ?_
        exact rc_X7_init_55 K21 hK21 (C_X7_init_29 K21 f) ih _ _ _ _ _ _ _ _ _ _ _ h
      · refine x_if_ne (tgt := 55) (pc' := 43) dX7_init_40 (by decide) rfl (fun _ => ?_) (fun hn => absurd hn g5)
        exact rc_X7_init_55 K21 hK21 (C_X7_init_29 K21 f) ih _ _ _ _ _ _ _ _ _ _ _ h
def C_X7_init_21 : Nat → Nat → Int32 → Nat → Nat → Nat → (Nat → Nat × Nat) → (Nat → Nat → Int32) → (Nat → Nat → Int64) → (Nat → Nat → Option Nat) → Option xHp
  | 0, _, _, _, _, _, _, _, _, _ => none
  | f + 1, v0, v1, k, q, n, sh, hi, hl, hr => if (25 : Int32) < v1 then if decide (k = 1 ∧ q ≤ 26) = true then some (n, sh, hi, hl, hr) else none else C_X7_init_29 (C_X7_init_21 f) 1000 v0 v1 (0 : Int32) k q n sh hi hl hr
set_option maxRecDepth 20000 in
set_option maxHeartbeats 2000000 in
theorem rc_X7_init_21 : ∀ (f : Nat) (v0 : Nat) (v1 : Int32) (d2 : Option Value) (k q n : Nat) (sh : Nat → Nat × Nat) (hi : Nat → Nat → Int32) (hl : Nat → Nat → Int64) (hr : Nat → Nat → Option Nat) (o : xHp), C_X7_init_21 f v0 v1 k q n sh hi hl hr = some o → xR (RX7, cX7_init, 3, true, 0) (3, 1, 26) z k q 21 [some (.ref v0), some (.int v1), d2] [] (n, sh, hi, hl, hr) (none, o) := by
  intro f
  induction f with
  | zero =>
    intro v0 v1 d2 k q n sh hi hl hr o h
    have h : none = some o := h
    cases h
  | succ f ih =>
    intro v0 v1 d2 k q n sh hi hl hr o h
    refine x_iload_n (pc' := 22) dX7_init_21 rfl rfl ?_
    refine x_bipush (pc' := 24) (x := 25) dX7_init_22 (by decide) rfl ?_
    refine xg_ite h (fun g1 h => ?_) (fun g1 h => ?_)
    · refine x_icmp_gt (tgt := 67) (pc' := 27) dX7_init_24 (by decide) rfl (fun _ => ?_) (fun hn => absurd g1 hn)
      refine xg_if h (fun g2 h => ?_)
      obtain rfl := Option.some.inj h
      exact x_vret dX7_init_67 rfl (of_decide_eq_true g2).1 (of_decide_eq_true g2).2 rfl
    · refine x_icmp_gt (tgt := 67) (pc' := 27) dX7_init_24 (by decide) rfl (fun hn => absurd hn g1) (fun _ => ?_)
      refine x_iconst (pc' := 28) (x := 0) dX7_init_27 (by decide) rfl ?_
      refine x_istore_n (pc' := 29) (L' := [some (.ref v0), some (.int v1), some (.int (0 : Int32))]) dX7_init_28 (Nat.le_of_ble_eq_true rfl) rfl rfl ?_
      exact rc_X7_init_29 (C_X7_init_21 f) ih 1000 _ _ _ _ _ _ _ _ _ _ _ h
def C_X7_init (v0 : Nat) (_ _ : Nat) (n : Nat) (sh : Nat → Nat × Nat) (hi : Nat → Nat → Int32) (hl : Nat → Nat → Int64) (hr : Nat → Nat → Option Nat) : Option xHp := if decide (0 + 1 ≤ 1 ∧ 0 + 26 ≤ 26 ∧ n + 1 ≤ 1000000) = true then if xdO (n + 1) (xsu sh n (0, 26)) v0 6 = true then if xdO (n + 1) (xsu sh n (0, 26)) v0 6 = true then C_X7_init_21 1000 v0 (0 : Int32) (0 + 1) (0 + 26) (n + 1) (xsu sh n (0, 26)) (xu (xz hi n 0) v0 1 (8191 : Int32)) (xz hl n 0) (xu (xz hr n none) v0 0 (some n)) else none else none else none
set_option maxRecDepth 20000 in
set_option maxHeartbeats 2000000 in
theorem rc_X7_init (v0 : Nat) (n : Nat) (sh : Nat → Nat × Nat) (hi : Nat → Nat → Int32) (hl : Nat → Nat → Int64) (hr : Nat → Nat → Option Nat) (o : xHp) (h : C_X7_init v0 0 0 n sh hi hl hr = some o) : xM yX7_init cX7_init 3 0 (3, 1, 26) z [.ref v0] (n, sh, hi, hl, hr) (none, o) := by
  refine x_meth2 (C := RX7) (ini := true) (L := [some (.ref v0), none, none]) rfl (by decide) (fun _ => rfl) (by decide) (Nat.le_of_ble_eq_true rfl) rfl ?_
  refine x_aload_n (pc' := 1) dX7_init_0 rfl rfl ?_
  refine x_oinit (pc' := 4) dX7_init_1 l_X7_3 w_oii w_oic (Nat.le_of_ble_eq_true rfl) (Nat.le_of_ble_eq_true rfl) rfl ?_
  refine x_aload_n (pc' := 5) dX7_init_4 rfl rfl ?_
  refine x_bipush (pc' := 7) (x := 26) dX7_init_5 (by decide) rfl ?_
  refine xg_if h (fun g1 h => ?_)
  refine x_newi (pc' := 9) (N := 26) dX7_init_7 w_aint (by decide) (by decide) (by decide) (of_decide_eq_true g1).1 (of_decide_eq_true g1).2.1 (of_decide_eq_true g1).2.2 rfl ?_
  refine xg_if h (fun g2 h => ?_)
  refine x_putr (pc' := 12) (Or.inr ⟨_, rfl⟩) dX7_init_9 f_X7_11 (Or.inr ⟨rfl, _, _, rfl⟩) (xdO_lt g2) (xdO_sh g2) rfl rfl ?_
  refine x_aload_n (pc' := 13) dX7_init_12 rfl rfl ?_
  refine x_sipush (pc' := 16) (x := 8191) dX7_init_13 (by decide) rfl ?_
  refine xg_if h (fun g3 h => ?_)
  refine x_puti (pc' := 19) dX7_init_16 f_X7_15 (Or.inl rfl) (xdO_lt g3) (xdO_sh g3) rfl rfl ?_
  refine x_iconst (pc' := 20) (x := 0) dX7_init_19 (by decide) rfl ?_
  refine x_istore_n (pc' := 21) (L' := [some (.ref v0), some (.int (0 : Int32)), none]) dX7_init_20 (Nat.le_of_ble_eq_true rfl) rfl rfl ?_
  exact rc_X7_init_21 1000 _ _ _ _ _ _ _ _ _ _ _ h
def C_X11_init_188 (v0 : Nat) (k q n : Nat) (sh : Nat → Nat × Nat) (hi : Nat → Nat → Int32) (hl : Nat → Nat → Int64) (hr : Nat → Nat → Option Nat) : Option xHp := if decide (k + 1 ≤ 89 ∧ q + 7 ≤ 2521 ∧ n + 1 ≤ 1000000) = true then if xdO (n + 1) (xsu sh n (0, 7)) v0 10 = true then if decide ((k + 1) = 89 ∧ (q + 7) ≤ 2521) = true then some ((n + 1), (xsu sh n (0, 7)), (xz hi n 0), (xz hl n 0), (xu (xz hr n none) v0 13 (some n))) else none else none else none
set_option maxRecDepth 20000 in
set_option maxHeartbeats 2000000 in
theorem rc_X11_init_188 (v0 : Nat) (d1 : Option Value) (k q n : Nat) (sh : Nat → Nat × Nat) (hi : Nat → Nat → Int32) (hl : Nat → Nat → Int64) (hr : Nat → Nat → Option Nat) (o : xHp) (h : C_X11_init_188 v0 k q n sh hi hl hr = some o) : xR (RX11, cX11_init, 2, true, 0) (4, 89, 2521) z k q 188 [some (.ref v0), d1] [] (n, sh, hi, hl, hr) (none, o) := by
  refine x_aload_n (pc' := 189) dX11_init_188 rfl rfl ?_
  refine x_bipush (pc' := 191) (x := 7) dX11_init_189 (by decide) rfl ?_
  refine xg_if h (fun g1 h => ?_)
  refine x_newi (pc' := 193) (N := 7) dX11_init_191 w_aint (by decide) (by decide) (by decide) (of_decide_eq_true g1).1 (of_decide_eq_true g1).2.1 (of_decide_eq_true g1).2.2 rfl ?_
  refine xg_if h (fun g2 h => ?_)
  refine x_putr (pc' := 196) (Or.inr ⟨_, rfl⟩) dX11_init_193 f_X11_97 (Or.inr ⟨rfl, _, _, rfl⟩) (xdO_lt g2) (xdO_sh g2) rfl rfl ?_
  refine xg_if h (fun g3 h => ?_)
  obtain rfl := Option.some.inj h
  exact x_vret dX11_init_196 rfl (of_decide_eq_true g3).1 (of_decide_eq_true g3).2 rfl
def C_X11_init_150 (v0 : Nat) (k q n : Nat) (sh : Nat → Nat × Nat) (hi : Nat → Nat → Int32) (hl : Nat → Nat → Int64) (hr : Nat → Nat → Option Nat) : Option xHp := if decide (k + 1 ≤ 89 ∧ q + xnf 5 ≤ 2521 ∧ n + 1 ≤ 1000000) = true then if decide (n < (n + 1) ∧ (k + 1) + 0 ≤ 89 ∧ (q + xnf 5) + 0 ≤ 2521) = true then xbH (C_X6_init n 0 0 (n + 1) (xsu sh n (5 + 5, xnf 5)) (xz hi n 0) (xz hl n 0) (xz hr n none)) (fun n3 sh3 hi3 hl3 hr3 => if xdO n3 sh3 v0 10 = true then if decide (((k + 1) + 0) + 1 ≤ 89 ∧ ((q + xnf 5) + 0) + xnf 5 ≤ 2521 ∧ n3 + 1 ≤ 1000000) = true then if decide (n3 < (n3 + 1) ∧ (((k + 1) + 0) + 1) + 0 ≤ 89 ∧ (((q + xnf 5) + 0) + xnf 5) + 0 ≤ 2521) = true then xbH (C_X6_init n3 0 0 (n3 + 1) (xsu sh3 n3 (5 + 5, xnf 5)) (xz hi3 n3 0) (xz hl3 n3 0) (xz (xu hr3 v0 9 (some n)) n3 none)) (fun n8 sh8 hi8 hl8 hr8 => if xdO n8 sh8 v0 10 = true then if decide (((((k + 1) + 0) + 1) + 0) + 1 ≤ 89 ∧ ((((q + xnf 5) + 0) + xnf 5) + 0) + 7 ≤ 2521 ∧ n8 + 1 ≤ 1000000) = true then if xdO (n8 + 1) (xsu sh8 n8 (0, 7)) v0 10 = true then if decide ((((((k + 1) + 0) + 1) + 0) + 1) + 1 ≤ 89 ∧ (((((q + xnf 5) + 0) + xnf 5) + 0) + 7) + 7 ≤ 2521 ∧ (n8 + 1) + 1 ≤ 1000000) = true then if xdO ((n8 + 1) + 1) (xsu (xsu sh8 n8 (0, 7)) (n8 + 1) (0, 7)) v0 10 = true then C_X11_init_188 v0 ((((((k + 1) + 0) + 1) + 0) + 1) + 1) ((((((q + xnf 5) + 0) + xnf 5) + 0) + 7) + 7) ((n8 + 1) + 1) (xsu (xsu sh8 n8 (0, 7)) (n8 + 1) (0, 7)) (xz (xz hi8 n8 0) (n8 + 1) 0) (xz (xz hl8 n8 0) (n8 + 1) 0) (xu (xz (xu (xz (xu hr8 v0 10 (some n3)) n8 none) v0 11 (some n8)) (n8 + 1) none) v0 12 (some (n8 + 1))) else none else none else none else none else none) else none else none else none) else none else none
set_option maxRecDepth 20000 in
set_option maxHeartbeats 2000000 in
theorem rc_X11_init_150 (v0 : Nat) (d1 : Option Value) (k q n : Nat) (sh : Nat → Nat × Nat) (hi : Nat → Nat → Int32) (hl : Nat → Nat → Int64) (hr : Nat → Nat → Option Nat) (o : xHp) (h : C_X11_init_150 v0 k q n sh hi hl hr = some o) : xR (RX11, cX11_init, 2, true, 0) (4, 89, 2521) z k q 150 [some (.ref v0), d1] [] (n, sh, hi, hl, hr) (none, o) := by
  refine x_aload_n (pc' := 151) dX11_init_150 rfl rfl ?_
  refine xg_if h (fun g1 h => ?_)
  refine x_new (pc' := 154) dX11_init_151 k_X11_80 clsX6 (of_decide_eq_true g1).1 (of_decide_eq_true g1).2.1 (of_decide_eq_true g1).2.2 rfl ?_
  refine x_dup (pc' := 155) dX11_init_154 rfl rfl ?_
  refine xg_if h (fun g2 h => ?_)
  refine xg_bH h (fun n3 sh3 hi3 hl3 hr3 e4 h => ?_)
  refine x_callI (pc' := 158) (S := [.ref n, .ref v0]) (As := []) (b' := (2, 0, 0)) dX11_init_155 (Or.inl l_X11_82) m_X6_init rfl rfl (of_decide_eq_true g2).1 (Nat.le_of_ble_eq_true rfl) (Nat.le_of_ble_eq_true rfl) (of_decide_eq_true g2).2.1 (of_decide_eq_true g2).2.2 (rc_X6_init _ _ _ _ _ _ _ e4) rfl ?_
  refine xg_if h (fun g5 h => ?_)
  refine x_putr (pc' := 161) (Or.inl ⟨_, rfl⟩) dX11_init_158 f_X11_83 (Or.inr ⟨rfl, _, _, rfl⟩) (xdO_lt g5) (xdO_sh g5) rfl rfl ?_
  refine x_aload_n (pc' := 162) dX11_init_161 rfl rfl ?_
  refine xg_if h (fun g6 h => ?_)
  refine x_new (pc' := 165) dX11_init_162 k_X11_80 clsX6 (of_decide_eq_true g6).1 (of_decide_eq_true g6).2.1 (of_decide_eq_true g6).2.2 rfl ?_
  refine x_dup (pc' := 166) dX11_init_165 rfl rfl ?_
  refine xg_if h (fun g7 h => ?_)
  refine xg_bH h (fun n8 sh8 hi8 hl8 hr8 e9 h => ?_)
  refine x_callI (pc' := 169) (S := [.ref n3, .ref v0]) (As := []) (b' := (2, 0, 0)) dX11_init_166 (Or.inl l_X11_82) m_X6_init rfl rfl (of_decide_eq_true g7).1 (Nat.le_of_ble_eq_true rfl) (Nat.le_of_ble_eq_true rfl) (of_decide_eq_true g7).2.1 (of_decide_eq_true g7).2.2 (rc_X6_init _ _ _ _ _ _ _ e9) rfl ?_
  refine xg_if h (fun g10 h => ?_)
  refine x_putr (pc' := 172) (Or.inl ⟨_, rfl⟩) dX11_init_169 f_X11_87 (Or.inr ⟨rfl, _, _, rfl⟩) (xdO_lt g10) (xdO_sh g10) rfl rfl ?_
  refine x_aload_n (pc' := 173) dX11_init_172 rfl rfl ?_
  refine x_bipush (pc' := 175) (x := 7) dX11_init_173 (by decide) rfl ?_
  refine xg_if h (fun g11 h => ?_)
  refine x_newi (pc' := 177) (N := 7) dX11_init_175 w_aint (by decide) (by decide) (by decide) (of_decide_eq_true g11).1 (of_decide_eq_true g11).2.1 (of_decide_eq_true g11).2.2 rfl ?_
  refine xg_if h (fun g12 h => ?_)
  refine x_putr (pc' := 180) (Or.inr ⟨_, rfl⟩) dX11_init_177 f_X11_90 (Or.inr ⟨rfl, _, _, rfl⟩) (xdO_lt g12) (xdO_sh g12) rfl rfl ?_
  refine x_aload_n (pc' := 181) dX11_init_180 rfl rfl ?_
  refine x_bipush (pc' := 183) (x := 7) dX11_init_181 (by decide) rfl ?_
  refine xg_if h (fun g13 h => ?_)
  refine x_newi (pc' := 185) (N := 7) dX11_init_183 w_aint (by decide) (by decide) (by decide) (of_decide_eq_true g13).1 (of_decide_eq_true g13).2.1 (of_decide_eq_true g13).2.2 rfl ?_
  refine xg_if h (fun g14 h => ?_)
  refine x_putr (pc' := 188) (Or.inr ⟨_, rfl⟩) dX11_init_185 f_X11_94 (Or.inr ⟨rfl, _, _, rfl⟩) (xdO_lt g14) (xdO_sh g14) rfl rfl ?_
  exact rc_X11_init_188 _ _ _ _ _ _ _ _ _ _ h
def C_X11_init_115 : Nat → Nat → Int32 → Nat → Nat → Nat → (Nat → Nat × Nat) → (Nat → Nat → Int32) → (Nat → Nat → Int64) → (Nat → Nat → Option Nat) → Option xHp
  | 0, _, _, _, _, _, _, _, _, _ => none
  | f + 1, v0, v1, k, q, n, sh, hi, hl, hr => if (2 : Int32) ≤ v1 then if decide (k + 1 ≤ 89 ∧ q + xnf 6 ≤ 2521 ∧ n + 1 ≤ 1000000) = true then if decide (n < (n + 1) ∧ (k + 1) + 1 ≤ 89 ∧ (q + xnf 6) + 26 ≤ 2521) = true then xbH (C_X7_init n 0 0 (n + 1) (xsu sh n (6 + 5, xnf 6)) (xz hi n 0) (xz hl n 0) (xz hr n none)) (fun n4 sh4 hi4 hl4 hr4 => if xdO n4 sh4 v0 10 = true then C_X11_init_150 v0 ((k + 1) + 1) ((q + xnf 6) + 26) n4 sh4 hi4 hl4 (xu hr4 v0 8 (some n)) else none) else none else none else if xdO n sh v0 10 = true then xbO (hr v0 7) (fun t8 => if decide (k + 1 ≤ 89 ∧ q + xnf 2 ≤ 2521 ∧ n + 1 ≤ 1000000) = true then if decide (n < (n + 1) ∧ (k + 1) + 2 ≤ 89 ∧ (q + xnf 2) + 144 ≤ 2521) = true then xbH (C_X2_init n 0 0 (n + 1) (xsu sh n (2 + 5, xnf 2)) (xz hi n 0) (xz hl n 0) (xz hr n none)) (fun n12 sh12 hi12 hl12 hr12 => if xdA n12 sh12 t8 3 v1 = true then if xdO n12 sh12 n 2 = true then (C_X11_init_115 f) v0 (v1 + (1)) ((k + 1) + 2) ((q + xnf 2) + 144) n12 sh12 hi12 hl12 (xu hr12 t8 (Int32.toNatClampNeg v1) (some n)) else none else none) else none else none) else none
set_option maxRecDepth 20000 in
set_option maxHeartbeats 2000000 in
theorem rc_X11_init_115 : ∀ (f : Nat) (v0 : Nat) (v1 : Int32) (k q n : Nat) (sh : Nat → Nat × Nat) (hi : Nat → Nat → Int32) (hl : Nat → Nat → Int64) (hr : Nat → Nat → Option Nat) (o : xHp), C_X11_init_115 f v0 v1 k q n sh hi hl hr = some o → xR (RX11, cX11_init, 2, true, 0) (4, 89, 2521) z k q 115 [some (.ref v0), some (.int v1)] [] (n, sh, hi, hl, hr) (none, o) := by
  intro f
  induction f with
  | zero =>
    intro v0 v1 k q n sh hi hl hr o h
    have h : none = some o := h
    cases h
  | succ f ih =>
    intro v0 v1 k q n sh hi hl hr o h
    refine x_iload_n (pc' := 116) dX11_init_115 rfl rfl ?_
    refine x_iconst (pc' := 117) (x := 2) dX11_init_116 (by decide) rfl ?_
    refine xg_ite h (fun g1 h => ?_) (fun g1 h => ?_)
    · refine x_icmp_ge (tgt := 139) (pc' := 120) dX11_init_117 (by decide) rfl (fun _ => ?_) (fun hn => absurd g1 hn)
      refine x_aload_n (pc' := 140) dX11_init_139 rfl rfl ?_
      refine xg_if h (fun g2 h => ?_)
      refine x_new (pc' := 143) dX11_init_140 k_X11_73 clsX7 (of_decide_eq_true g2).1 (of_decide_eq_true g2).2.1 (of_decide_eq_true g2).2.2 rfl ?_
      refine x_dup (pc' := 144) dX11_init_143 rfl rfl ?_
      refine xg_if h (fun g3 h => ?_)
      refine xg_bH h (fun n4 sh4 hi4 hl4 hr4 e5 h => ?_)
      refine x_callI (pc' := 147) (S := [.ref n, .ref v0]) (As := []) (b' := (3, 1, 26)) dX11_init_144 (Or.inl l_X11_75) m_X7_init rfl rfl (of_decide_eq_true g3).1 (Nat.le_of_ble_eq_true rfl) (Nat.le_of_ble_eq_true rfl) (of_decide_eq_true g3).2.1 (of_decide_eq_true g3).2.2 (rc_X7_init _ _ _ _ _ _ _ e5) rfl ?_
      refine xg_if h (fun g6 h => ?_)
      refine x_putr (pc' := 150) (Or.inl ⟨_, rfl⟩) dX11_init_147 f_X11_76 (Or.inr ⟨rfl, _, _, rfl⟩) (xdO_lt g6) (xdO_sh g6) rfl rfl ?_
      exact rc_X11_init_150 _ _ _ _ _ _ _ _ _ _ h
    · refine x_icmp_ge (tgt := 139) (pc' := 120) dX11_init_117 (by decide) rfl (fun hn => absurd hn g1) (fun _ => ?_)
      refine x_aload_n (pc' := 121) dX11_init_120 rfl rfl ?_
      refine xg_if h (fun g7 h => ?_)
      refine xg_bO h (fun t8 e9 h => ?_)
      refine x_getr (pc' := 124) (t := t8) dX11_init_121 f_X11_68 (xdO_lt g7) (xdO_sh g7) rfl e9 rfl ?_
      refine x_iload_n (pc' := 125) dX11_init_124 rfl rfl ?_
      refine xg_if h (fun g10 h => ?_)
      refine x_new (pc' := 128) dX11_init_125 k_X11_66 clsX2 (of_decide_eq_true g10).1 (of_decide_eq_true g10).2.1 (of_decide_eq_true g10).2.2 rfl ?_
      refine x_dup (pc' := 129) dX11_init_128 rfl rfl ?_
      refine xg_if h (fun g11 h => ?_)
      refine xg_bH h (fun n12 sh12 hi12 hl12 hr12 e13 h => ?_)
      refine x_callI (pc' := 132) (S := [.ref n, .int v1, .ref t8]) (As := []) (b' := (2, 2, 144)) dX11_init_129 (Or.inr ⟨RX11, List.mem_of_getElem? (i := 3) rfl⟩) m_X2_init rfl rfl (of_decide_eq_true g11).1 (Nat.le_of_ble_eq_true rfl) (Nat.le_of_ble_eq_true rfl) (of_decide_eq_true g11).2.1 (of_decide_eq_true g11).2.2 (rc_X2_init _ _ _ _ _ _ _ e13) rfl ?_
      refine xg_if h (fun g14 h => ?_)
      refine xg_if h (fun g15 h => ?_)
      refine x_aast3 (pc' := 133) dX11_init_132 (xdA_lt g14) (xdA_sh g14) (xdA_in g14) (xdO_lt g15) (xdO_sh g15) rfl ?_
      refine x_iinc (pc' := 136) (v := (v1 + (1))) (L' := [some (.ref v0), some (.int (v1 + (1)))]) dX11_init_133 rfl rfl (Nat.le_of_ble_eq_true rfl) rfl rfl ?_
      refine x_goto (tgt := 115) dX11_init_136 (by decide) ?_
      exact ih _ _ _ _ _ _ _ _ _ _ h
def C_X11_init_94 (v0 : Nat) (k q n : Nat) (sh : Nat → Nat × Nat) (hi : Nat → Nat → Int32) (hl : Nat → Nat → Int64) (hr : Nat → Nat → Option Nat) : Option xHp := if decide (k + 1 ≤ 89 ∧ q + xnf 1 ≤ 2521 ∧ n + 1 ≤ 1000000) = true then if decide (n < (n + 1) ∧ (k + 1) + 34 ≤ 89 ∧ (q + xnf 1) + 1627 ≤ 2521) = true then xbH (C_X1_init n 0 0 (n + 1) (xsu sh n (1 + 5, xnf 1)) (xz hi n 0) (xz hl n 0) (xz hr n none)) (fun n3 sh3 hi3 hl3 hr3 => if xdO n3 sh3 v0 10 = true then if decide (((k + 1) + 34) + 1 ≤ 89 ∧ ((q + xnf 1) + 1627) + 2 ≤ 2521 ∧ n3 + 1 ≤ 1000000) = true then if xdO (n3 + 1) (xsu sh3 n3 (3, 2)) v0 10 = true then C_X11_init_115 1000 v0 (0 : Int32) (((k + 1) + 34) + 1) (((q + xnf 1) + 1627) + 2) (n3 + 1) (xsu sh3 n3 (3, 2)) (xz hi3 n3 0) (xz hl3 n3 0) (xu (xz (xu hr3 v0 6 (some n)) n3 none) v0 7 (some n3)) else none else none else none) else none else none
set_option maxRecDepth 20000 in
set_option maxHeartbeats 2000000 in
theorem rc_X11_init_94 (v0 : Nat) (d1 : Option Value) (k q n : Nat) (sh : Nat → Nat × Nat) (hi : Nat → Nat → Int32) (hl : Nat → Nat → Int64) (hr : Nat → Nat → Option Nat) (o : xHp) (h : C_X11_init_94 v0 k q n sh hi hl hr = some o) : xR (RX11, cX11_init, 2, true, 0) (4, 89, 2521) z k q 94 [some (.ref v0), d1] [] (n, sh, hi, hl, hr) (none, o) := by
  refine x_aload_n (pc' := 95) dX11_init_94 rfl rfl ?_
  refine xg_if h (fun g1 h => ?_)
  refine x_new (pc' := 98) dX11_init_95 k_X11_59 clsX1 (of_decide_eq_true g1).1 (of_decide_eq_true g1).2.1 (of_decide_eq_true g1).2.2 rfl ?_
  refine x_dup (pc' := 99) dX11_init_98 rfl rfl ?_
  refine xg_if h (fun g2 h => ?_)
  refine xg_bH h (fun n3 sh3 hi3 hl3 hr3 e4 h => ?_)
  refine x_callI (pc' := 102) (S := [.ref n, .ref v0]) (As := []) (b' := (3, 34, 1627)) dX11_init_99 (Or.inl l_X11_61) m_X1_init rfl rfl (of_decide_eq_true g2).1 (Nat.le_of_ble_eq_true rfl) (Nat.le_of_ble_eq_true rfl) (of_decide_eq_true g2).2.1 (of_decide_eq_true g2).2.2 (rc_X1_init _ _ _ _ _ _ _ e4) rfl ?_
  refine xg_if h (fun g5 h => ?_)
  refine x_putr (pc' := 105) (Or.inl ⟨_, rfl⟩) dX11_init_102 f_X11_62 (Or.inr ⟨rfl, _, _, rfl⟩) (xdO_lt g5) (xdO_sh g5) rfl rfl ?_
  refine x_aload_n (pc' := 106) dX11_init_105 rfl rfl ?_
  refine x_iconst (pc' := 107) (x := 2) dX11_init_106 (by decide) rfl ?_
  refine xg_if h (fun g6 h => ?_)
  refine x_newq3 (pc' := 110) (N := 2) dX11_init_107 k_X11_66 (by decide) (by decide) (by decide) (of_decide_eq_true g6).1 (of_decide_eq_true g6).2.1 (of_decide_eq_true g6).2.2 rfl ?_
  refine xg_if h (fun g7 h => ?_)
  refine x_putr (pc' := 113) (Or.inr ⟨_, rfl⟩) dX11_init_110 f_X11_68 (Or.inr ⟨rfl, _, _, rfl⟩) (xdO_lt g7) (xdO_sh g7) rfl rfl ?_
  refine x_iconst (pc' := 114) (x := 0) dX11_init_113 (by decide) rfl ?_
  refine x_istore_n (pc' := 115) (L' := [some (.ref v0), some (.int (0 : Int32))]) dX11_init_114 (Nat.le_of_ble_eq_true rfl) rfl rfl ?_
  exact rc_X11_init_115 1000 _ _ _ _ _ _ _ _ _ _ h
def C_X11_init_49 (v0 : Nat) (k q n : Nat) (sh : Nat → Nat × Nat) (hi : Nat → Nat → Int32) (hl : Nat → Nat → Int64) (hr : Nat → Nat → Option Nat) : Option xHp := if decide (k + 1 ≤ 89 ∧ q + xnf 3 ≤ 2521 ∧ n + 1 ≤ 1000000) = true then if decide (n < (n + 1) ∧ (k + 1) + 2 ≤ 89 ∧ (q + xnf 3) + 160 ≤ 2521) = true then xbH (C_X4_init n 0 0 (n + 1) (xsu sh n (3 + 5, xnf 3)) (xz hi n 0) (xz hl n 0) (xz hr n none)) (fun n3 sh3 hi3 hl3 hr3 => if xdO n3 sh3 v0 10 = true then if decide (((k + 1) + 2) + 1 ≤ 89 ∧ ((q + xnf 3) + 160) + xnf 8 ≤ 2521 ∧ n3 + 1 ≤ 1000000) = true then if xdO (n3 + 1) (xsu sh3 n3 (8 + 5, xnf 8)) v0 10 = true then xbO ((xz (xu hr3 v0 3 (some n)) n3 none) v0 3) (fun t8 => if decide (n3 < (n3 + 1) ∧ (((k + 1) + 2) + 1) + 2 ≤ 89 ∧ (((q + xnf 3) + 160) + xnf 8) + 6 ≤ 2521) = true then xbH (C_X9_init n3 t8 0 0 (n3 + 1) (xsu sh3 n3 (8 + 5, xnf 8)) (xz hi3 n3 0) (xz hl3 n3 0) (xz (xu hr3 v0 3 (some n)) n3 none)) (fun n11 sh11 hi11 hl11 hr11 => if xdO n11 sh11 v0 10 = true then if decide (((((k + 1) + 2) + 1) + 2) + 1 ≤ 89 ∧ ((((q + xnf 3) + 160) + xnf 8) + 6) + xnf 9 ≤ 2521 ∧ n11 + 1 ≤ 1000000) = true then if xdO (n11 + 1) (xsu sh11 n11 (9 + 5, xnf 9)) v0 10 = true then xbO ((xz (xu hr11 v0 4 (some n3)) n11 none) v0 3) (fun t16 => if xdO (n11 + 1) (xsu sh11 n11 (9 + 5, xnf 9)) v0 10 = true then xbO ((xz (xu hr11 v0 4 (some n3)) n11 none) v0 1) (fun t19 => if decide (n11 < (n11 + 1) ∧ (((((k + 1) + 2) + 1) + 2) + 1) + 4 ≤ 89 ∧ (((((q + xnf 3) + 160) + xnf 8) + 6) + xnf 9) + 64 ≤ 2521) = true then xbH (C_X10_init n11 t16 t19 0 0 (n11 + 1) (xsu sh11 n11 (9 + 5, xnf 9)) (xz hi11 n11 0) (xz hl11 n11 0) (xz (xu hr11 v0 4 (some n3)) n11 none)) (fun n22 sh22 hi22 hl22 hr22 => if xdO n22 sh22 v0 10 = true then C_X11_init_94 v0 ((((((k + 1) + 2) + 1) + 2) + 1) + 4) ((((((q + xnf 3) + 160) + xnf 8) + 6) + xnf 9) + 64) n22 sh22 hi22 hl22 (xu hr22 v0 5 (some n11)) else none) else none) else none) else none else none else none) else none) else none else none else none) else none else none
set_option maxRecDepth 20000 in
set_option maxHeartbeats 2000000 in
theorem rc_X11_init_49 (v0 : Nat) (d1 : Option Value) (k q n : Nat) (sh : Nat → Nat × Nat) (hi : Nat → Nat → Int32) (hl : Nat → Nat → Int64) (hr : Nat → Nat → Option Nat) (o : xHp) (h : C_X11_init_49 v0 k q n sh hi hl hr = some o) : xR (RX11, cX11_init, 2, true, 0) (4, 89, 2521) z k q 49 [some (.ref v0), d1] [] (n, sh, hi, hl, hr) (none, o) := by
  refine x_aload_n (pc' := 50) dX11_init_49 rfl rfl ?_
  refine xg_if h (fun g1 h => ?_)
  refine x_new (pc' := 53) dX11_init_50 k_X11_34 clsX4 (of_decide_eq_true g1).1 (of_decide_eq_true g1).2.1 (of_decide_eq_true g1).2.2 rfl ?_
  refine x_dup (pc' := 54) dX11_init_53 rfl rfl ?_
  refine xg_if h (fun g2 h => ?_)
  refine xg_bH h (fun n3 sh3 hi3 hl3 hr3 e4 h => ?_)
  refine x_callI (pc' := 57) (S := [.ref n, .ref v0]) (As := []) (b' := (2, 2, 160)) dX11_init_54 (Or.inr ⟨RX11, List.mem_of_getElem? (i := 1) rfl⟩) m_X4_init rfl rfl (of_decide_eq_true g2).1 (Nat.le_of_ble_eq_true rfl) (Nat.le_of_ble_eq_true rfl) (of_decide_eq_true g2).2.1 (of_decide_eq_true g2).2.2 (rc_X4_init _ _ _ _ _ _ _ e4) rfl ?_
  refine xg_if h (fun g5 h => ?_)
  refine x_putr (pc' := 60) (Or.inl ⟨_, rfl⟩) dX11_init_57 f_X11_37 (Or.inr ⟨rfl, _, _, rfl⟩) (xdO_lt g5) (xdO_sh g5) rfl rfl ?_
  refine x_aload_n (pc' := 61) dX11_init_60 rfl rfl ?_
  refine xg_if h (fun g6 h => ?_)
  refine x_new (pc' := 64) dX11_init_61 k_X11_41 clsX9 (of_decide_eq_true g6).1 (of_decide_eq_true g6).2.1 (of_decide_eq_true g6).2.2 rfl ?_
  refine x_dup (pc' := 65) dX11_init_64 rfl rfl ?_
  refine x_aload_n (pc' := 66) dX11_init_65 rfl rfl ?_
  refine xg_if h (fun g7 h => ?_)
  refine xg_bO h (fun t8 e9 h => ?_)
  refine x_getr (pc' := 69) (t := t8) dX11_init_66 f_X11_37 (xdO_lt g7) (xdO_sh g7) rfl e9 rfl ?_
  refine xg_if h (fun g10 h => ?_)
  refine xg_bH h (fun n11 sh11 hi11 hl11 hr11 e12 h => ?_)
  refine x_callI (pc' := 72) (S := [.ref n3, .ref v0]) (As := [.ref t8]) (b' := (2, 2, 6)) dX11_init_69 (Or.inl l_X11_43) m_X9_init rfl rfl (of_decide_eq_true g10).1 (Nat.le_of_ble_eq_true rfl) (Nat.le_of_ble_eq_true rfl) (of_decide_eq_true g10).2.1 (of_decide_eq_true g10).2.2 (rc_X9_init _ _ _ _ _ _ _ _ e12) rfl ?_
  refine xg_if h (fun g13 h => ?_)
  refine x_putr (pc' := 75) (Or.inl ⟨_, rfl⟩) dX11_init_72 f_X11_46 (Or.inr ⟨rfl, _, _, rfl⟩) (xdO_lt g13) (xdO_sh g13) rfl rfl ?_
  refine x_aload_n (pc' := 76) dX11_init_75 rfl rfl ?_
  refine xg_if h (fun g14 h => ?_)
  refine x_new (pc' := 79) dX11_init_76 k_X11_50 clsX10 (of_decide_eq_true g14).1 (of_decide_eq_true g14).2.1 (of_decide_eq_true g14).2.2 rfl ?_
  refine x_dup (pc' := 80) dX11_init_79 rfl rfl ?_
  refine x_aload_n (pc' := 81) dX11_init_80 rfl rfl ?_
  refine xg_if h (fun g15 h => ?_)
  refine xg_bO h (fun t16 e17 h => ?_)
  refine x_getr (pc' := 84) (t := t16) dX11_init_81 f_X11_37 (xdO_lt g15) (xdO_sh g15) rfl e17 rfl ?_
  refine x_aload_n (pc' := 85) dX11_init_84 rfl rfl ?_
  refine xg_if h (fun g18 h => ?_)
  refine xg_bO h (fun t19 e20 h => ?_)
  refine x_getr (pc' := 88) (t := t19) dX11_init_85 f_X11_21 (xdO_lt g18) (xdO_sh g18) rfl e20 rfl ?_
  refine xg_if h (fun g21 h => ?_)
  refine xg_bH h (fun n22 sh22 hi22 hl22 hr22 e23 h => ?_)
  refine x_callI (pc' := 91) (S := [.ref n11, .ref v0]) (As := [.ref t16, .ref t19]) (b' := (2, 4, 64)) dX11_init_88 (Or.inl l_X11_52) m_X10_init rfl rfl (of_decide_eq_true g21).1 (Nat.le_of_ble_eq_true rfl) (Nat.le_of_ble_eq_true rfl) (of_decide_eq_true g21).2.1 (of_decide_eq_true g21).2.2 (rc_X10_init _ _ _ _ _ _ _ _ _ e23) rfl ?_
  refine xg_if h (fun g24 h => ?_)
  refine x_putr (pc' := 94) (Or.inl ⟨_, rfl⟩) dX11_init_91 f_X11_55 (Or.inr ⟨rfl, _, _, rfl⟩) (xdO_lt g24) (xdO_sh g24) rfl rfl ?_
  exact rc_X11_init_94 _ _ _ _ _ _ _ _ _ _ h
def C_X11_init (v0 : Nat) (_ _ : Nat) (n : Nat) (sh : Nat → Nat × Nat) (hi : Nat → Nat → Int32) (hl : Nat → Nat → Int64) (hr : Nat → Nat → Option Nat) : Option xHp := if decide (0 + 1 ≤ 89 ∧ 0 + xnf 0 ≤ 2521 ∧ n + 1 ≤ 1000000) = true then if decide (n < (n + 1) ∧ (0 + 1) + 4 ≤ 89 ∧ (0 + xnf 0) + 156 ≤ 2521) = true then xbH (C_X0_init n 0 0 (n + 1) (xsu sh n (0 + 5, xnf 0)) (xz hi n 0) (xz hl n 0) (xz hr n none)) (fun n3 sh3 hi3 hl3 hr3 => if xdO n3 sh3 v0 10 = true then if decide (((0 + 1) + 4) + 1 ≤ 89 ∧ ((0 + xnf 0) + 156) + xnf 7 ≤ 2521 ∧ n3 + 1 ≤ 1000000) = true then if xdO (n3 + 1) (xsu sh3 n3 (7 + 5, xnf 7)) v0 10 = true then xbO ((xz (xu hr3 v0 0 (some n)) n3 none) v0 0) (fun t8 => if decide (n3 < (n3 + 1) ∧ (((0 + 1) + 4) + 1) + 7 ≤ 89 ∧ (((0 + xnf 0) + 156) + xnf 7) + 80 ≤ 2521) = true then xbH (C_X8_init n3 t8 0 0 (n3 + 1) (xsu sh3 n3 (7 + 5, xnf 7)) (xz hi3 n3 0) (xz hl3 n3 0) (xz (xu hr3 v0 0 (some n)) n3 none)) (fun n11 sh11 hi11 hl11 hr11 => if xdO n11 sh11 v0 10 = true then if decide (((((0 + 1) + 4) + 1) + 7) + 1 ≤ 89 ∧ ((((0 + xnf 0) + 156) + xnf 7) + 80) + xnf 4 ≤ 2521 ∧ n11 + 1 ≤ 1000000) = true then if xdO (n11 + 1) (xsu sh11 n11 (4 + 5, xnf 4)) v0 10 = true then xbO ((xz (xu hr11 v0 1 (some n3)) n11 none) v0 0) (fun t16 => if xdO (n11 + 1) (xsu sh11 n11 (4 + 5, xnf 4)) v0 10 = true then xbO ((xz (xu hr11 v0 1 (some n3)) n11 none) v0 1) (fun t19 => if decide (n11 < (n11 + 1) ∧ (((((0 + 1) + 4) + 1) + 7) + 1) + 15 ≤ 89 ∧ (((((0 + xnf 0) + 156) + xnf 7) + 80) + xnf 4) + 40 ≤ 2521) = true then xbH (C_X5_init n11 t16 t19 0 0 (n11 + 1) (xsu sh11 n11 (4 + 5, xnf 4)) (xz hi11 n11 0) (xz hl11 n11 0) (xz (xu hr11 v0 1 (some n3)) n11 none)) (fun n22 sh22 hi22 hl22 hr22 => if xdO n22 sh22 v0 10 = true then C_X11_init_49 v0 ((((((0 + 1) + 4) + 1) + 7) + 1) + 15) ((((((0 + xnf 0) + 156) + xnf 7) + 80) + xnf 4) + 40) n22 sh22 hi22 hl22 (xu hr22 v0 2 (some n11)) else none) else none) else none) else none else none else none) else none) else none else none else none) else none else none
set_option maxRecDepth 20000 in
set_option maxHeartbeats 2000000 in
theorem rc_X11_init (v0 : Nat) (n : Nat) (sh : Nat → Nat × Nat) (hi : Nat → Nat → Int32) (hl : Nat → Nat → Int64) (hr : Nat → Nat → Option Nat) (o : xHp) (h : C_X11_init v0 0 0 n sh hi hl hr = some o) : xM yX11_init cX11_init 2 0 (4, 89, 2521) z [.ref v0] (n, sh, hi, hl, hr) (none, o) := by
  refine x_meth2 (C := RX11) (ini := true) (L := [some (.ref v0), none]) rfl (by decide) (fun _ => rfl) (by decide) (Nat.le_of_ble_eq_true rfl) rfl ?_
  refine x_aload_n (pc' := 1) dX11_init_0 rfl rfl ?_
  refine x_oinit (pc' := 4) dX11_init_1 l_X11_3 w_oii w_oic (Nat.le_of_ble_eq_true rfl) (Nat.le_of_ble_eq_true rfl) rfl ?_
  refine x_aload_n (pc' := 5) dX11_init_4 rfl rfl ?_
  refine xg_if h (fun g1 h => ?_)
  refine x_new (pc' := 8) dX11_init_5 k_X11_9 clsX0 (of_decide_eq_true g1).1 (of_decide_eq_true g1).2.1 (of_decide_eq_true g1).2.2 rfl ?_
  refine x_dup (pc' := 9) dX11_init_8 rfl rfl ?_
  refine xg_if h (fun g2 h => ?_)
  refine xg_bH h (fun n3 sh3 hi3 hl3 hr3 e4 h => ?_)
  refine x_callI (pc' := 12) (S := [.ref n, .ref v0]) (As := []) (b' := (2, 4, 156)) dX11_init_9 (Or.inr ⟨RX11, List.mem_of_getElem? (i := 0) rfl⟩) m_X0_init rfl rfl (of_decide_eq_true g2).1 (Nat.le_of_ble_eq_true rfl) (Nat.le_of_ble_eq_true rfl) (of_decide_eq_true g2).2.1 (of_decide_eq_true g2).2.2 (rc_X0_init _ _ _ _ _ _ _ e4) rfl ?_
  refine xg_if h (fun g5 h => ?_)
  refine x_putr (pc' := 15) (Or.inl ⟨_, rfl⟩) dX11_init_12 f_X11_12 (Or.inr ⟨rfl, _, _, rfl⟩) (xdO_lt g5) (xdO_sh g5) rfl rfl ?_
  refine x_aload_n (pc' := 16) dX11_init_15 rfl rfl ?_
  refine xg_if h (fun g6 h => ?_)
  refine x_new (pc' := 19) dX11_init_16 k_X11_16 clsX8 (of_decide_eq_true g6).1 (of_decide_eq_true g6).2.1 (of_decide_eq_true g6).2.2 rfl ?_
  refine x_dup (pc' := 20) dX11_init_19 rfl rfl ?_
  refine x_aload_n (pc' := 21) dX11_init_20 rfl rfl ?_
  refine xg_if h (fun g7 h => ?_)
  refine xg_bO h (fun t8 e9 h => ?_)
  refine x_getr (pc' := 24) (t := t8) dX11_init_21 f_X11_12 (xdO_lt g7) (xdO_sh g7) rfl e9 rfl ?_
  refine xg_if h (fun g10 h => ?_)
  refine xg_bH h (fun n11 sh11 hi11 hl11 hr11 e12 h => ?_)
  refine x_callI (pc' := 27) (S := [.ref n3, .ref v0]) (As := [.ref t8]) (b' := (2, 7, 80)) dX11_init_24 (Or.inl l_X11_18) m_X8_init rfl rfl (of_decide_eq_true g10).1 (Nat.le_of_ble_eq_true rfl) (Nat.le_of_ble_eq_true rfl) (of_decide_eq_true g10).2.1 (of_decide_eq_true g10).2.2 (rc_X8_init _ _ _ _ _ _ _ _ e12) rfl ?_
  refine xg_if h (fun g13 h => ?_)
  refine x_putr (pc' := 30) (Or.inl ⟨_, rfl⟩) dX11_init_27 f_X11_21 (Or.inr ⟨rfl, _, _, rfl⟩) (xdO_lt g13) (xdO_sh g13) rfl rfl ?_
  refine x_aload_n (pc' := 31) dX11_init_30 rfl rfl ?_
  refine xg_if h (fun g14 h => ?_)
  refine x_new (pc' := 34) dX11_init_31 k_X11_25 clsX5 (of_decide_eq_true g14).1 (of_decide_eq_true g14).2.1 (of_decide_eq_true g14).2.2 rfl ?_
  refine x_dup (pc' := 35) dX11_init_34 rfl rfl ?_
  refine x_aload_n (pc' := 36) dX11_init_35 rfl rfl ?_
  refine xg_if h (fun g15 h => ?_)
  refine xg_bO h (fun t16 e17 h => ?_)
  refine x_getr (pc' := 39) (t := t16) dX11_init_36 f_X11_12 (xdO_lt g15) (xdO_sh g15) rfl e17 rfl ?_
  refine x_aload_n (pc' := 40) dX11_init_39 rfl rfl ?_
  refine xg_if h (fun g18 h => ?_)
  refine xg_bO h (fun t19 e20 h => ?_)
  refine x_getr (pc' := 43) (t := t19) dX11_init_40 f_X11_21 (xdO_lt g18) (xdO_sh g18) rfl e20 rfl ?_
  refine xg_if h (fun g21 h => ?_)
  refine xg_bH h (fun n22 sh22 hi22 hl22 hr22 e23 h => ?_)
  refine x_callI (pc' := 46) (S := [.ref n11, .ref v0]) (As := [.ref t16, .ref t19]) (b' := (3, 15, 40)) dX11_init_43 (Or.inl l_X11_27) m_X5_init rfl rfl (of_decide_eq_true g21).1 (Nat.le_of_ble_eq_true rfl) (Nat.le_of_ble_eq_true rfl) (of_decide_eq_true g21).2.1 (of_decide_eq_true g21).2.2 (rc_X5_init _ _ _ _ _ _ _ _ _ e23) rfl ?_
  refine xg_if h (fun g24 h => ?_)
  refine x_putr (pc' := 49) (Or.inl ⟨_, rfl⟩) dX11_init_46 f_X11_30 (Or.inr ⟨rfl, _, _, rfl⟩) (xdO_lt g24) (xdO_sh g24) rfl rfl ?_
  exact rc_X11_init_49 _ _ _ _ _ _ _ _ _ _ h
def C_X12_init_268 (v0 : Nat) (k q n : Nat) (sh : Nat → Nat × Nat) (hi : Nat → Nat → Int32) (hl : Nat → Nat → Int64) (hr : Nat → Nat → Option Nat) : Option xHp := if xdO n sh v0 11 = true then xbO (hr v0 21) (fun t2 => if xdA n sh t2 0 (1 : Int32) = true then if decide (k = 31 ∧ q ≤ 10616) = true then some (n, sh, (xu hi t2 (Int32.toNatClampNeg (1 : Int32)) ((-20) : Int32)), hl, hr) else none else none) else none
set_option maxRecDepth 20000 in
set_option maxHeartbeats 2000000 in
theorem rc_X12_init_268 (v0 : Nat) (k q n : Nat) (sh : Nat → Nat × Nat) (hi : Nat → Nat → Int32) (hl : Nat → Nat → Int64) (hr : Nat → Nat → Option Nat) (o : xHp) (h : C_X12_init_268 v0 k q n sh hi hl hr = some o) : xR (RX12, cX12_init, 1, true, 0) (2, 31, 10616) z k q 268 [some (.ref v0)] [] (n, sh, hi, hl, hr) (none, o) := by
  refine x_aload_n (pc' := 269) dX12_init_268 rfl rfl ?_
  refine xg_if h (fun g1 h => ?_)
  refine xg_bO h (fun t2 e3 h => ?_)
  refine x_getr (pc' := 272) (t := t2) dX12_init_269 f_X12_60 (xdO_lt g1) (xdO_sh g1) rfl e3 rfl ?_
  refine x_iconst (pc' := 273) (x := 1) dX12_init_272 (by decide) rfl ?_
  refine x_bipush (pc' := 275) (x := (-20)) dX12_init_273 (by decide) rfl ?_
  refine xg_if h (fun g4 h => ?_)
  refine x_iast (pc' := 276) dX12_init_275 (xdA_lt g4) (xdA_sh g4) (xdA_in g4) rfl ?_
  refine xg_if h (fun g5 h => ?_)
  obtain rfl := Option.some.inj h
  exact x_vret dX12_init_276 rfl (of_decide_eq_true g5).1 (of_decide_eq_true g5).2 rfl
def C_X12_init_236 (v0 : Nat) (k q n : Nat) (sh : Nat → Nat × Nat) (hi : Nat → Nat → Int32) (hl : Nat → Nat → Int64) (hr : Nat → Nat → Option Nat) : Option xHp := if decide (k + 1 ≤ 31 ∧ q + 16 ≤ 10616 ∧ n + 1 ≤ 1000000) = true then if xdO (n + 1) (xsu sh n (0, 16)) v0 11 = true then if decide ((k + 1) + 1 ≤ 31 ∧ (q + 16) + 80 ≤ 10616 ∧ (n + 1) + 1 ≤ 1000000) = true then if xdO ((n + 1) + 1) (xsu (xsu sh n (0, 16)) (n + 1) (0, 80)) v0 11 = true then if decide (((k + 1) + 1) + 1 ≤ 31 ∧ ((q + 16) + 80) + 104 ≤ 10616 ∧ ((n + 1) + 1) + 1 ≤ 1000000) = true then if xdO (((n + 1) + 1) + 1) (xsu (xsu (xsu sh n (0, 16)) (n + 1) (0, 80)) ((n + 1) + 1) (0, 104)) v0 11 = true then if xdO (((n + 1) + 1) + 1) (xsu (xsu (xsu sh n (0, 16)) (n + 1) (0, 80)) ((n + 1) + 1) (0, 104)) v0 11 = true then xbO ((xu (xz (xu (xz (xu (xz hr n none) v0 42 (some n)) (n + 1) none) v0 43 (some (n + 1))) ((n + 1) + 1) none) v0 44 (some ((n + 1) + 1))) v0 21) (fun t8 => if xdA (((n + 1) + 1) + 1) (xsu (xsu (xsu sh n (0, 16)) (n + 1) (0, 80)) ((n + 1) + 1) (0, 104)) t8 0 (0 : Int32) = true then C_X12_init_268 v0 (((k + 1) + 1) + 1) (((q + 16) + 80) + 104) (((n + 1) + 1) + 1) (xsu (xsu (xsu sh n (0, 16)) (n + 1) (0, 80)) ((n + 1) + 1) (0, 104)) (xu (xz (xz (xz hi n 0) (n + 1) 0) ((n + 1) + 1) 0) t8 (Int32.toNatClampNeg (0 : Int32)) ((-20) : Int32)) (xz (xz (xz hl n 0) (n + 1) 0) ((n + 1) + 1) 0) (xu (xz (xu (xz (xu (xz hr n none) v0 42 (some n)) (n + 1) none) v0 43 (some (n + 1))) ((n + 1) + 1) none) v0 44 (some ((n + 1) + 1))) else none) else none else none else none else none else none else none else none
set_option maxRecDepth 20000 in
set_option maxHeartbeats 2000000 in
theorem rc_X12_init_236 (v0 : Nat) (k q n : Nat) (sh : Nat → Nat × Nat) (hi : Nat → Nat → Int32) (hl : Nat → Nat → Int64) (hr : Nat → Nat → Option Nat) (o : xHp) (h : C_X12_init_236 v0 k q n sh hi hl hr = some o) : xR (RX12, cX12_init, 1, true, 0) (2, 31, 10616) z k q 236 [some (.ref v0)] [] (n, sh, hi, hl, hr) (none, o) := by
  refine x_aload_n (pc' := 237) dX12_init_236 rfl rfl ?_
  refine x_bipush (pc' := 239) (x := 16) dX12_init_237 (by decide) rfl ?_
  refine xg_if h (fun g1 h => ?_)
  refine x_newi (pc' := 241) (N := 16) dX12_init_239 w_aint (by decide) (by decide) (by decide) (of_decide_eq_true g1).1 (of_decide_eq_true g1).2.1 (of_decide_eq_true g1).2.2 rfl ?_
  refine xg_if h (fun g2 h => ?_)
  refine x_putr (pc' := 244) (Or.inr ⟨_, rfl⟩) dX12_init_241 f_X12_100 (Or.inr ⟨rfl, _, _, rfl⟩) (xdO_lt g2) (xdO_sh g2) rfl rfl ?_
  refine x_aload_n (pc' := 245) dX12_init_244 rfl rfl ?_
  refine x_bipush (pc' := 247) (x := 80) dX12_init_245 (by decide) rfl ?_
  refine xg_if h (fun g3 h => ?_)
  refine x_newi (pc' := 249) (N := 80) dX12_init_247 w_aint (by decide) (by decide) (by decide) (of_decide_eq_true g3).1 (of_decide_eq_true g3).2.1 (of_decide_eq_true g3).2.2 rfl ?_
  refine xg_if h (fun g4 h => ?_)
  refine x_putr (pc' := 252) (Or.inr ⟨_, rfl⟩) dX12_init_249 f_X12_103 (Or.inr ⟨rfl, _, _, rfl⟩) (xdO_lt g4) (xdO_sh g4) rfl rfl ?_
  refine x_aload_n (pc' := 253) dX12_init_252 rfl rfl ?_
  refine x_bipush (pc' := 255) (x := 104) dX12_init_253 (by decide) rfl ?_
  refine xg_if h (fun g5 h => ?_)
  refine x_newi (pc' := 257) (N := 104) dX12_init_255 w_aint (by decide) (by decide) (by decide) (of_decide_eq_true g5).1 (of_decide_eq_true g5).2.1 (of_decide_eq_true g5).2.2 rfl ?_
  refine xg_if h (fun g6 h => ?_)
  refine x_putr (pc' := 260) (Or.inr ⟨_, rfl⟩) dX12_init_257 f_X12_106 (Or.inr ⟨rfl, _, _, rfl⟩) (xdO_lt g6) (xdO_sh g6) rfl rfl ?_
  refine x_aload_n (pc' := 261) dX12_init_260 rfl rfl ?_
  refine xg_if h (fun g7 h => ?_)
  refine xg_bO h (fun t8 e9 h => ?_)
  refine x_getr (pc' := 264) (t := t8) dX12_init_261 f_X12_60 (xdO_lt g7) (xdO_sh g7) rfl e9 rfl ?_
  refine x_iconst (pc' := 265) (x := 0) dX12_init_264 (by decide) rfl ?_
  refine x_bipush (pc' := 267) (x := (-20)) dX12_init_265 (by decide) rfl ?_
  refine xg_if h (fun g10 h => ?_)
  refine x_iast (pc' := 268) dX12_init_267 (xdA_lt g10) (xdA_sh g10) (xdA_in g10) rfl ?_
  exact rc_X12_init_268 _ _ _ _ _ _ _ _ _ h
def C_X12_init_206 (v0 : Nat) (k q n : Nat) (sh : Nat → Nat × Nat) (hi : Nat → Nat → Int32) (hl : Nat → Nat → Int64) (hr : Nat → Nat → Option Nat) : Option xHp := if decide (k + 1 ≤ 31 ∧ q + 12 ≤ 10616 ∧ n + 1 ≤ 1000000) = true then if xdO (n + 1) (xsu sh n (0, 12)) v0 11 = true then if decide ((k + 1) + 1 ≤ 31 ∧ (q + 12) + 12 ≤ 10616 ∧ (n + 1) + 1 ≤ 1000000) = true then if xdO ((n + 1) + 1) (xsu (xsu sh n (0, 12)) (n + 1) (1, 12)) v0 11 = true then if decide (((k + 1) + 1) + 1 ≤ 31 ∧ ((q + 12) + 12) + 3 ≤ 10616 ∧ ((n + 1) + 1) + 1 ≤ 1000000) = true then if xdO (((n + 1) + 1) + 1) (xsu (xsu (xsu sh n (0, 12)) (n + 1) (1, 12)) ((n + 1) + 1) (0, 3)) v0 11 = true then if decide ((((k + 1) + 1) + 1) + 1 ≤ 31 ∧ (((q + 12) + 12) + 3) + 3 ≤ 10616 ∧ (((n + 1) + 1) + 1) + 1 ≤ 1000000) = true then if xdO ((((n + 1) + 1) + 1) + 1) (xsu (xsu (xsu (xsu sh n (0, 12)) (n + 1) (1, 12)) ((n + 1) + 1) (0, 3)) (((n + 1) + 1) + 1) (0, 3)) v0 11 = true then C_X12_init_236 v0 ((((k + 1) + 1) + 1) + 1) ((((q + 12) + 12) + 3) + 3) ((((n + 1) + 1) + 1) + 1) (xsu (xsu (xsu (xsu sh n (0, 12)) (n + 1) (1, 12)) ((n + 1) + 1) (0, 3)) (((n + 1) + 1) + 1) (0, 3)) (xz (xz (xz (xz hi n 0) (n + 1) 0) ((n + 1) + 1) 0) (((n + 1) + 1) + 1) 0) (xz (xz (xz (xz hl n 0) (n + 1) 0) ((n + 1) + 1) 0) (((n + 1) + 1) + 1) 0) (xu (xz (xu (xz (xu (xz (xu (xz hr n none) v0 36 (some n)) (n + 1) none) v0 37 (some (n + 1))) ((n + 1) + 1) none) v0 40 (some ((n + 1) + 1))) (((n + 1) + 1) + 1) none) v0 41 (some (((n + 1) + 1) + 1))) else none else none else none else none else none else none else none else none
set_option maxRecDepth 20000 in
set_option maxHeartbeats 2000000 in
theorem rc_X12_init_206 (v0 : Nat) (k q n : Nat) (sh : Nat → Nat × Nat) (hi : Nat → Nat → Int32) (hl : Nat → Nat → Int64) (hr : Nat → Nat → Option Nat) (o : xHp) (h : C_X12_init_206 v0 k q n sh hi hl hr = some o) : xR (RX12, cX12_init, 1, true, 0) (2, 31, 10616) z k q 206 [some (.ref v0)] [] (n, sh, hi, hl, hr) (none, o) := by
  refine x_aload_n (pc' := 207) dX12_init_206 rfl rfl ?_
  refine x_bipush (pc' := 209) (x := 12) dX12_init_207 (by decide) rfl ?_
  refine xg_if h (fun g1 h => ?_)
  refine x_newi (pc' := 211) (N := 12) dX12_init_209 w_aint (by decide) (by decide) (by decide) (of_decide_eq_true g1).1 (of_decide_eq_true g1).2.1 (of_decide_eq_true g1).2.2 rfl ?_
  refine xg_if h (fun g2 h => ?_)
  refine x_putr (pc' := 214) (Or.inr ⟨_, rfl⟩) dX12_init_211 f_X12_88 (Or.inr ⟨rfl, _, _, rfl⟩) (xdO_lt g2) (xdO_sh g2) rfl rfl ?_
  refine x_aload_n (pc' := 215) dX12_init_214 rfl rfl ?_
  refine x_bipush (pc' := 217) (x := 12) dX12_init_215 (by decide) rfl ?_
  refine xg_if h (fun g3 h => ?_)
  refine x_newl (pc' := 219) (N := 12) dX12_init_217 w_along (by decide) (by decide) (by decide) (of_decide_eq_true g3).1 (of_decide_eq_true g3).2.1 (of_decide_eq_true g3).2.2 rfl ?_
  refine xg_if h (fun g4 h => ?_)
  refine x_putr (pc' := 222) (Or.inr ⟨_, rfl⟩) dX12_init_219 f_X12_91 (Or.inr ⟨rfl, _, _, rfl⟩) (xdO_lt g4) (xdO_sh g4) rfl rfl ?_
  refine x_aload_n (pc' := 223) dX12_init_222 rfl rfl ?_
  refine x_iconst (pc' := 224) (x := 3) dX12_init_223 (by decide) rfl ?_
  refine xg_if h (fun g5 h => ?_)
  refine x_newi (pc' := 226) (N := 3) dX12_init_224 w_aint (by decide) (by decide) (by decide) (of_decide_eq_true g5).1 (of_decide_eq_true g5).2.1 (of_decide_eq_true g5).2.2 rfl ?_
  refine xg_if h (fun g6 h => ?_)
  refine x_putr (pc' := 229) (Or.inr ⟨_, rfl⟩) dX12_init_226 f_X12_94 (Or.inr ⟨rfl, _, _, rfl⟩) (xdO_lt g6) (xdO_sh g6) rfl rfl ?_
  refine x_aload_n (pc' := 230) dX12_init_229 rfl rfl ?_
  refine x_iconst (pc' := 231) (x := 3) dX12_init_230 (by decide) rfl ?_
  refine xg_if h (fun g7 h => ?_)
  refine x_newi (pc' := 233) (N := 3) dX12_init_231 w_aint (by decide) (by decide) (by decide) (of_decide_eq_true g7).1 (of_decide_eq_true g7).2.1 (of_decide_eq_true g7).2.2 rfl ?_
  refine xg_if h (fun g8 h => ?_)
  refine x_putr (pc' := 236) (Or.inr ⟨_, rfl⟩) dX12_init_233 f_X12_97 (Or.inr ⟨rfl, _, _, rfl⟩) (xdO_lt g8) (xdO_sh g8) rfl rfl ?_
  exact rc_X12_init_236 _ _ _ _ _ _ _ _ _ h
def C_X12_init_173 (v0 : Nat) (k q n : Nat) (sh : Nat → Nat × Nat) (hi : Nat → Nat → Int32) (hl : Nat → Nat → Int64) (hr : Nat → Nat → Option Nat) : Option xHp := if decide (k + 1 ≤ 31 ∧ q + 6 ≤ 10616 ∧ n + 1 ≤ 1000000) = true then if xdO (n + 1) (xsu sh n (0, 6)) v0 11 = true then if decide ((k + 1) + 1 ≤ 31 ∧ (q + 6) + 8192 ≤ 10616 ∧ (n + 1) + 1 ≤ 1000000) = true then if xdO ((n + 1) + 1) (xsu (xsu sh n (0, 6)) (n + 1) (2, 8192)) v0 11 = true then if decide (((k + 1) + 1) + 1 ≤ 31 ∧ ((q + 6) + 8192) + 72 ≤ 10616 ∧ ((n + 1) + 1) + 1 ≤ 1000000) = true then if xdO (((n + 1) + 1) + 1) (xsu (xsu (xsu sh n (0, 6)) (n + 1) (2, 8192)) ((n + 1) + 1) (0, 72)) v0 11 = true then if decide ((((k + 1) + 1) + 1) + 1 ≤ 31 ∧ (((q + 6) + 8192) + 72) + 72 ≤ 10616 ∧ (((n + 1) + 1) + 1) + 1 ≤ 1000000) = true then if xdO ((((n + 1) + 1) + 1) + 1) (xsu (xsu (xsu (xsu sh n (0, 6)) (n + 1) (2, 8192)) ((n + 1) + 1) (0, 72)) (((n + 1) + 1) + 1) (1, 72)) v0 11 = true then C_X12_init_206 v0 ((((k + 1) + 1) + 1) + 1) ((((q + 6) + 8192) + 72) + 72) ((((n + 1) + 1) + 1) + 1) (xsu (xsu (xsu (xsu sh n (0, 6)) (n + 1) (2, 8192)) ((n + 1) + 1) (0, 72)) (((n + 1) + 1) + 1) (1, 72)) (xz (xz (xz (xz hi n 0) (n + 1) 0) ((n + 1) + 1) 0) (((n + 1) + 1) + 1) 0) (xz (xz (xz (xz hl n 0) (n + 1) 0) ((n + 1) + 1) 0) (((n + 1) + 1) + 1) 0) (xu (xz (xu (xz (xu (xz (xu (xz hr n none) v0 28 (some n)) (n + 1) none) v0 30 (some (n + 1))) ((n + 1) + 1) none) v0 34 (some ((n + 1) + 1))) (((n + 1) + 1) + 1) none) v0 35 (some (((n + 1) + 1) + 1))) else none else none else none else none else none else none else none else none
set_option maxRecDepth 20000 in
set_option maxHeartbeats 2000000 in
theorem rc_X12_init_173 (v0 : Nat) (k q n : Nat) (sh : Nat → Nat × Nat) (hi : Nat → Nat → Int32) (hl : Nat → Nat → Int64) (hr : Nat → Nat → Option Nat) (o : xHp) (h : C_X12_init_173 v0 k q n sh hi hl hr = some o) : xR (RX12, cX12_init, 1, true, 0) (2, 31, 10616) z k q 173 [some (.ref v0)] [] (n, sh, hi, hl, hr) (none, o) := by
  refine x_aload_n (pc' := 174) dX12_init_173 rfl rfl ?_
  refine x_bipush (pc' := 176) (x := 6) dX12_init_174 (by decide) rfl ?_
  refine xg_if h (fun g1 h => ?_)
  refine x_newi (pc' := 178) (N := 6) dX12_init_176 w_aint (by decide) (by decide) (by decide) (of_decide_eq_true g1).1 (of_decide_eq_true g1).2.1 (of_decide_eq_true g1).2.2 rfl ?_
  refine xg_if h (fun g2 h => ?_)
  refine x_putr (pc' := 181) (Or.inr ⟨_, rfl⟩) dX12_init_178 f_X12_75 (Or.inr ⟨rfl, _, _, rfl⟩) (xdO_lt g2) (xdO_sh g2) rfl rfl ?_
  refine x_aload_n (pc' := 182) dX12_init_181 rfl rfl ?_
  refine x_sipush (pc' := 185) (x := 8192) dX12_init_182 (by decide) rfl ?_
  refine xg_if h (fun g3 h => ?_)
  refine x_newb (pc' := 187) (N := 8192) dX12_init_185 w_abyte (by decide) (by decide) (by decide) (of_decide_eq_true g3).1 (of_decide_eq_true g3).2.1 (of_decide_eq_true g3).2.2 rfl ?_
  refine xg_if h (fun g4 h => ?_)
  refine x_putr (pc' := 190) (Or.inr ⟨_, rfl⟩) dX12_init_187 f_X12_78 (Or.inr ⟨rfl, _, _, rfl⟩) (xdO_lt g4) (xdO_sh g4) rfl rfl ?_
  refine x_aload_n (pc' := 191) dX12_init_190 rfl rfl ?_
  refine x_bipush (pc' := 193) (x := 72) dX12_init_191 (by decide) rfl ?_
  refine xg_if h (fun g5 h => ?_)
  refine x_newi (pc' := 195) (N := 72) dX12_init_193 w_aint (by decide) (by decide) (by decide) (of_decide_eq_true g5).1 (of_decide_eq_true g5).2.1 (of_decide_eq_true g5).2.2 rfl ?_
  refine xg_if h (fun g6 h => ?_)
  refine x_putr (pc' := 198) (Or.inr ⟨_, rfl⟩) dX12_init_195 f_X12_82 (Or.inr ⟨rfl, _, _, rfl⟩) (xdO_lt g6) (xdO_sh g6) rfl rfl ?_
  refine x_aload_n (pc' := 199) dX12_init_198 rfl rfl ?_
  refine x_bipush (pc' := 201) (x := 72) dX12_init_199 (by decide) rfl ?_
  refine xg_if h (fun g7 h => ?_)
  refine x_newl (pc' := 203) (N := 72) dX12_init_201 w_along (by decide) (by decide) (by decide) (of_decide_eq_true g7).1 (of_decide_eq_true g7).2.1 (of_decide_eq_true g7).2.2 rfl ?_
  refine xg_if h (fun g8 h => ?_)
  refine x_putr (pc' := 206) (Or.inr ⟨_, rfl⟩) dX12_init_203 f_X12_85 (Or.inr ⟨rfl, _, _, rfl⟩) (xdO_lt g8) (xdO_sh g8) rfl rfl ?_
  exact rc_X12_init_206 _ _ _ _ _ _ _ _ _ h
def C_X12_init_141 (v0 : Nat) (k q n : Nat) (sh : Nat → Nat × Nat) (hi : Nat → Nat → Int32) (hl : Nat → Nat → Int64) (hr : Nat → Nat → Option Nat) : Option xHp := if decide (k + 1 ≤ 31 ∧ q + 80 ≤ 10616 ∧ n + 1 ≤ 1000000) = true then if xdO (n + 1) (xsu sh n (0, 80)) v0 11 = true then if decide ((k + 1) + 1 ≤ 31 ∧ (q + 80) + 7 ≤ 10616 ∧ (n + 1) + 1 ≤ 1000000) = true then if xdO ((n + 1) + 1) (xsu (xsu sh n (0, 80)) (n + 1) (0, 7)) v0 11 = true then if decide (((k + 1) + 1) + 1 ≤ 31 ∧ ((q + 80) + 7) + 7 ≤ 10616 ∧ ((n + 1) + 1) + 1 ≤ 1000000) = true then if xdO (((n + 1) + 1) + 1) (xsu (xsu (xsu sh n (0, 80)) (n + 1) (0, 7)) ((n + 1) + 1) (0, 7)) v0 11 = true then if decide ((((k + 1) + 1) + 1) + 1 ≤ 31 ∧ (((q + 80) + 7) + 7) + 6 ≤ 10616 ∧ (((n + 1) + 1) + 1) + 1 ≤ 1000000) = true then if xdO ((((n + 1) + 1) + 1) + 1) (xsu (xsu (xsu (xsu sh n (0, 80)) (n + 1) (0, 7)) ((n + 1) + 1) (0, 7)) (((n + 1) + 1) + 1) (0, 6)) v0 11 = true then C_X12_init_173 v0 ((((k + 1) + 1) + 1) + 1) ((((q + 80) + 7) + 7) + 6) ((((n + 1) + 1) + 1) + 1) (xsu (xsu (xsu (xsu sh n (0, 80)) (n + 1) (0, 7)) ((n + 1) + 1) (0, 7)) (((n + 1) + 1) + 1) (0, 6)) (xz (xz (xz (xz hi n 0) (n + 1) 0) ((n + 1) + 1) 0) (((n + 1) + 1) + 1) 0) (xz (xz (xz (xz hl n 0) (n + 1) 0) ((n + 1) + 1) 0) (((n + 1) + 1) + 1) 0) (xu (xz (xu (xz (xu (xz (xu (xz hr n none) v0 23 (some n)) (n + 1) none) v0 24 (some (n + 1))) ((n + 1) + 1) none) v0 25 (some ((n + 1) + 1))) (((n + 1) + 1) + 1) none) v0 27 (some (((n + 1) + 1) + 1))) else none else none else none else none else none else none else none else none
set_option maxRecDepth 20000 in
set_option maxHeartbeats 2000000 in
theorem rc_X12_init_141 (v0 : Nat) (k q n : Nat) (sh : Nat → Nat × Nat) (hi : Nat → Nat → Int32) (hl : Nat → Nat → Int64) (hr : Nat → Nat → Option Nat) (o : xHp) (h : C_X12_init_141 v0 k q n sh hi hl hr = some o) : xR (RX12, cX12_init, 1, true, 0) (2, 31, 10616) z k q 141 [some (.ref v0)] [] (n, sh, hi, hl, hr) (none, o) := by
  refine x_aload_n (pc' := 142) dX12_init_141 rfl rfl ?_
  refine x_bipush (pc' := 144) (x := 80) dX12_init_142 (by decide) rfl ?_
  refine xg_if h (fun g1 h => ?_)
  refine x_newi (pc' := 146) (N := 80) dX12_init_144 w_aint (by decide) (by decide) (by decide) (of_decide_eq_true g1).1 (of_decide_eq_true g1).2.1 (of_decide_eq_true g1).2.2 rfl ?_
  refine xg_if h (fun g2 h => ?_)
  refine x_putr (pc' := 149) (Or.inr ⟨_, rfl⟩) dX12_init_146 f_X12_63 (Or.inr ⟨rfl, _, _, rfl⟩) (xdO_lt g2) (xdO_sh g2) rfl rfl ?_
  refine x_aload_n (pc' := 150) dX12_init_149 rfl rfl ?_
  refine x_bipush (pc' := 152) (x := 7) dX12_init_150 (by decide) rfl ?_
  refine xg_if h (fun g3 h => ?_)
  refine x_newi (pc' := 154) (N := 7) dX12_init_152 w_aint (by decide) (by decide) (by decide) (of_decide_eq_true g3).1 (of_decide_eq_true g3).2.1 (of_decide_eq_true g3).2.2 rfl ?_
  refine xg_if h (fun g4 h => ?_)
  refine x_putr (pc' := 157) (Or.inr ⟨_, rfl⟩) dX12_init_154 f_X12_66 (Or.inr ⟨rfl, _, _, rfl⟩) (xdO_lt g4) (xdO_sh g4) rfl rfl ?_
  refine x_aload_n (pc' := 158) dX12_init_157 rfl rfl ?_
  refine x_bipush (pc' := 160) (x := 7) dX12_init_158 (by decide) rfl ?_
  refine xg_if h (fun g5 h => ?_)
  refine x_newi (pc' := 162) (N := 7) dX12_init_160 w_aint (by decide) (by decide) (by decide) (of_decide_eq_true g5).1 (of_decide_eq_true g5).2.1 (of_decide_eq_true g5).2.2 rfl ?_
  refine xg_if h (fun g6 h => ?_)
  refine x_putr (pc' := 165) (Or.inr ⟨_, rfl⟩) dX12_init_162 f_X12_69 (Or.inr ⟨rfl, _, _, rfl⟩) (xdO_lt g6) (xdO_sh g6) rfl rfl ?_
  refine x_aload_n (pc' := 166) dX12_init_165 rfl rfl ?_
  refine x_bipush (pc' := 168) (x := 6) dX12_init_166 (by decide) rfl ?_
  refine xg_if h (fun g7 h => ?_)
  refine x_newi (pc' := 170) (N := 6) dX12_init_168 w_aint (by decide) (by decide) (by decide) (of_decide_eq_true g7).1 (of_decide_eq_true g7).2.1 (of_decide_eq_true g7).2.2 rfl ?_
  refine xg_if h (fun g8 h => ?_)
  refine x_putr (pc' := 173) (Or.inr ⟨_, rfl⟩) dX12_init_170 f_X12_72 (Or.inr ⟨rfl, _, _, rfl⟩) (xdO_lt g8) (xdO_sh g8) rfl rfl ?_
  exact rc_X12_init_173 _ _ _ _ _ _ _ _ _ h
def C_X12_init_107 (v0 : Nat) (k q n : Nat) (sh : Nat → Nat × Nat) (hi : Nat → Nat → Int32) (hl : Nat → Nat → Int64) (hr : Nat → Nat → Option Nat) : Option xHp := if decide (k + 1 ≤ 31 ∧ q + 720 ≤ 10616 ∧ n + 1 ≤ 1000000) = true then if xdO (n + 1) (xsu sh n (1, 720)) v0 11 = true then if decide ((k + 1) + 1 ≤ 31 ∧ (q + 720) + 144 ≤ 10616 ∧ (n + 1) + 1 ≤ 1000000) = true then if xdO ((n + 1) + 1) (xsu (xsu sh n (1, 720)) (n + 1) (0, 144)) v0 11 = true then if decide (((k + 1) + 1) + 1 ≤ 31 ∧ ((q + 720) + 144) + 144 ≤ 10616 ∧ ((n + 1) + 1) + 1 ≤ 1000000) = true then if xdO (((n + 1) + 1) + 1) (xsu (xsu (xsu sh n (1, 720)) (n + 1) (0, 144)) ((n + 1) + 1) (1, 144)) v0 11 = true then if decide ((((k + 1) + 1) + 1) + 1 ≤ 31 ∧ (((q + 720) + 144) + 144) + 2 ≤ 10616 ∧ (((n + 1) + 1) + 1) + 1 ≤ 1000000) = true then if xdO ((((n + 1) + 1) + 1) + 1) (xsu (xsu (xsu (xsu sh n (1, 720)) (n + 1) (0, 144)) ((n + 1) + 1) (1, 144)) (((n + 1) + 1) + 1) (0, 2)) v0 11 = true then C_X12_init_141 v0 ((((k + 1) + 1) + 1) + 1) ((((q + 720) + 144) + 144) + 2) ((((n + 1) + 1) + 1) + 1) (xsu (xsu (xsu (xsu sh n (1, 720)) (n + 1) (0, 144)) ((n + 1) + 1) (1, 144)) (((n + 1) + 1) + 1) (0, 2)) (xz (xz (xz (xz hi n 0) (n + 1) 0) ((n + 1) + 1) 0) (((n + 1) + 1) + 1) 0) (xz (xz (xz (xz hl n 0) (n + 1) 0) ((n + 1) + 1) 0) (((n + 1) + 1) + 1) 0) (xu (xz (xu (xz (xu (xz (xu (xz hr n none) v0 18 (some n)) (n + 1) none) v0 19 (some (n + 1))) ((n + 1) + 1) none) v0 20 (some ((n + 1) + 1))) (((n + 1) + 1) + 1) none) v0 21 (some (((n + 1) + 1) + 1))) else none else none else none else none else none else none else none else none
set_option maxRecDepth 20000 in
set_option maxHeartbeats 2000000 in
theorem rc_X12_init_107 (v0 : Nat) (k q n : Nat) (sh : Nat → Nat × Nat) (hi : Nat → Nat → Int32) (hl : Nat → Nat → Int64) (hr : Nat → Nat → Option Nat) (o : xHp) (h : C_X12_init_107 v0 k q n sh hi hl hr = some o) : xR (RX12, cX12_init, 1, true, 0) (2, 31, 10616) z k q 107 [some (.ref v0)] [] (n, sh, hi, hl, hr) (none, o) := by
  refine x_aload_n (pc' := 108) dX12_init_107 rfl rfl ?_
  refine x_sipush (pc' := 111) (x := 720) dX12_init_108 (by decide) rfl ?_
  refine xg_if h (fun g1 h => ?_)
  refine x_newl (pc' := 113) (N := 720) dX12_init_111 w_along (by decide) (by decide) (by decide) (of_decide_eq_true g1).1 (of_decide_eq_true g1).2.1 (of_decide_eq_true g1).2.2 rfl ?_
  refine xg_if h (fun g2 h => ?_)
  refine x_putr (pc' := 116) (Or.inr ⟨_, rfl⟩) dX12_init_113 f_X12_51 (Or.inr ⟨rfl, _, _, rfl⟩) (xdO_lt g2) (xdO_sh g2) rfl rfl ?_
  refine x_aload_n (pc' := 117) dX12_init_116 rfl rfl ?_
  refine x_sipush (pc' := 120) (x := 144) dX12_init_117 (by decide) rfl ?_
  refine xg_if h (fun g3 h => ?_)
  refine x_newi (pc' := 122) (N := 144) dX12_init_120 w_aint (by decide) (by decide) (by decide) (of_decide_eq_true g3).1 (of_decide_eq_true g3).2.1 (of_decide_eq_true g3).2.2 rfl ?_
  refine xg_if h (fun g4 h => ?_)
  refine x_putr (pc' := 125) (Or.inr ⟨_, rfl⟩) dX12_init_122 f_X12_54 (Or.inr ⟨rfl, _, _, rfl⟩) (xdO_lt g4) (xdO_sh g4) rfl rfl ?_
  refine x_aload_n (pc' := 126) dX12_init_125 rfl rfl ?_
  refine x_sipush (pc' := 129) (x := 144) dX12_init_126 (by decide) rfl ?_
  refine xg_if h (fun g5 h => ?_)
  refine x_newl (pc' := 131) (N := 144) dX12_init_129 w_along (by decide) (by decide) (by decide) (of_decide_eq_true g5).1 (of_decide_eq_true g5).2.1 (of_decide_eq_true g5).2.2 rfl ?_
  refine xg_if h (fun g6 h => ?_)
  refine x_putr (pc' := 134) (Or.inr ⟨_, rfl⟩) dX12_init_131 f_X12_57 (Or.inr ⟨rfl, _, _, rfl⟩) (xdO_lt g6) (xdO_sh g6) rfl rfl ?_
  refine x_aload_n (pc' := 135) dX12_init_134 rfl rfl ?_
  refine x_iconst (pc' := 136) (x := 2) dX12_init_135 (by decide) rfl ?_
  refine xg_if h (fun g7 h => ?_)
  refine x_newi (pc' := 138) (N := 2) dX12_init_136 w_aint (by decide) (by decide) (by decide) (of_decide_eq_true g7).1 (of_decide_eq_true g7).2.1 (of_decide_eq_true g7).2.2 rfl ?_
  refine xg_if h (fun g8 h => ?_)
  refine x_putr (pc' := 141) (Or.inr ⟨_, rfl⟩) dX12_init_138 f_X12_60 (Or.inr ⟨rfl, _, _, rfl⟩) (xdO_lt g8) (xdO_sh g8) rfl rfl ?_
  exact rc_X12_init_141 _ _ _ _ _ _ _ _ _ h
def C_X12_init_68 (v0 : Nat) (k q n : Nat) (sh : Nat → Nat × Nat) (hi : Nat → Nat → Int32) (hl : Nat → Nat → Int64) (hr : Nat → Nat → Option Nat) : Option xHp := if decide (k + 1 ≤ 31 ∧ q + 8 ≤ 10616 ∧ n + 1 ≤ 1000000) = true then if xdO (n + 1) (xsu sh n (0, 8)) v0 11 = true then if decide ((k + 1) + 1 ≤ 31 ∧ (q + 8) + 8 ≤ 10616 ∧ (n + 1) + 1 ≤ 1000000) = true then if xdO ((n + 1) + 1) (xsu (xsu sh n (0, 8)) (n + 1) (0, 8)) v0 11 = true then if xdO ((n + 1) + 1) (xsu (xsu sh n (0, 8)) (n + 1) (0, 8)) v0 11 = true then if decide (((k + 1) + 1) + 1 ≤ 31 ∧ ((q + 8) + 8) + 10 ≤ 10616 ∧ ((n + 1) + 1) + 1 ≤ 1000000) = true then if xdO (((n + 1) + 1) + 1) (xsu (xsu (xsu sh n (0, 8)) (n + 1) (0, 8)) ((n + 1) + 1) (0, 10)) v0 11 = true then if decide ((((k + 1) + 1) + 1) + 1 ≤ 31 ∧ (((q + 8) + 8) + 10) + 720 ≤ 10616 ∧ (((n + 1) + 1) + 1) + 1 ≤ 1000000) = true then if xdO ((((n + 1) + 1) + 1) + 1) (xsu (xsu (xsu (xsu sh n (0, 8)) (n + 1) (0, 8)) ((n + 1) + 1) (0, 10)) (((n + 1) + 1) + 1) (0, 720)) v0 11 = true then C_X12_init_107 v0 ((((k + 1) + 1) + 1) + 1) ((((q + 8) + 8) + 10) + 720) ((((n + 1) + 1) + 1) + 1) (xsu (xsu (xsu (xsu sh n (0, 8)) (n + 1) (0, 8)) ((n + 1) + 1) (0, 10)) (((n + 1) + 1) + 1) (0, 720)) (xz (xz (xu (xz (xz hi n 0) (n + 1) 0) v0 13 ((-20) : Int32)) ((n + 1) + 1) 0) (((n + 1) + 1) + 1) 0) (xz (xz (xz (xz hl n 0) (n + 1) 0) ((n + 1) + 1) 0) (((n + 1) + 1) + 1) 0) (xu (xz (xu (xz (xu (xz (xu (xz hr n none) v0 11 (some n)) (n + 1) none) v0 12 (some (n + 1))) ((n + 1) + 1) none) v0 16 (some ((n + 1) + 1))) (((n + 1) + 1) + 1) none) v0 17 (some (((n + 1) + 1) + 1))) else none else none else none else none else none else none else none else none else none
set_option maxRecDepth 20000 in
set_option maxHeartbeats 2000000 in
theorem rc_X12_init_68 (v0 : Nat) (k q n : Nat) (sh : Nat → Nat × Nat) (hi : Nat → Nat → Int32) (hl : Nat → Nat → Int64) (hr : Nat → Nat → Option Nat) (o : xHp) (h : C_X12_init_68 v0 k q n sh hi hl hr = some o) : xR (RX12, cX12_init, 1, true, 0) (2, 31, 10616) z k q 68 [some (.ref v0)] [] (n, sh, hi, hl, hr) (none, o) := by
  refine x_aload_n (pc' := 69) dX12_init_68 rfl rfl ?_
  refine x_bipush (pc' := 71) (x := 8) dX12_init_69 (by decide) rfl ?_
  refine xg_if h (fun g1 h => ?_)
  refine x_newi (pc' := 73) (N := 8) dX12_init_71 w_aint (by decide) (by decide) (by decide) (of_decide_eq_true g1).1 (of_decide_eq_true g1).2.1 (of_decide_eq_true g1).2.2 rfl ?_
  refine xg_if h (fun g2 h => ?_)
  refine x_putr (pc' := 76) (Or.inr ⟨_, rfl⟩) dX12_init_73 f_X12_35 (Or.inr ⟨rfl, _, _, rfl⟩) (xdO_lt g2) (xdO_sh g2) rfl rfl ?_
  refine x_aload_n (pc' := 77) dX12_init_76 rfl rfl ?_
  refine x_bipush (pc' := 79) (x := 8) dX12_init_77 (by decide) rfl ?_
  refine xg_if h (fun g3 h => ?_)
  refine x_newi (pc' := 81) (N := 8) dX12_init_79 w_aint (by decide) (by decide) (by decide) (of_decide_eq_true g3).1 (of_decide_eq_true g3).2.1 (of_decide_eq_true g3).2.2 rfl ?_
  refine xg_if h (fun g4 h => ?_)
  refine x_putr (pc' := 84) (Or.inr ⟨_, rfl⟩) dX12_init_81 f_X12_38 (Or.inr ⟨rfl, _, _, rfl⟩) (xdO_lt g4) (xdO_sh g4) rfl rfl ?_
  refine x_aload_n (pc' := 85) dX12_init_84 rfl rfl ?_
  refine x_bipush (pc' := 87) (x := (-20)) dX12_init_85 (by decide) rfl ?_
  refine xg_if h (fun g5 h => ?_)
  refine x_puti (pc' := 90) dX12_init_87 f_X12_41 (Or.inl rfl) (xdO_lt g5) (xdO_sh g5) rfl rfl ?_
  refine x_aload_n (pc' := 91) dX12_init_90 rfl rfl ?_
  refine x_bipush (pc' := 93) (x := 10) dX12_init_91 (by decide) rfl ?_
  refine xg_if h (fun g6 h => ?_)
  refine x_newi (pc' := 95) (N := 10) dX12_init_93 w_aint (by decide) (by decide) (by decide) (of_decide_eq_true g6).1 (of_decide_eq_true g6).2.1 (of_decide_eq_true g6).2.2 rfl ?_
  refine xg_if h (fun g7 h => ?_)
  refine x_putr (pc' := 98) (Or.inr ⟨_, rfl⟩) dX12_init_95 f_X12_45 (Or.inr ⟨rfl, _, _, rfl⟩) (xdO_lt g7) (xdO_sh g7) rfl rfl ?_
  refine x_aload_n (pc' := 99) dX12_init_98 rfl rfl ?_
  refine x_sipush (pc' := 102) (x := 720) dX12_init_99 (by decide) rfl ?_
  refine xg_if h (fun g8 h => ?_)
  refine x_newi (pc' := 104) (N := 720) dX12_init_102 w_aint (by decide) (by decide) (by decide) (of_decide_eq_true g8).1 (of_decide_eq_true g8).2.1 (of_decide_eq_true g8).2.2 rfl ?_
  refine xg_if h (fun g9 h => ?_)
  refine x_putr (pc' := 107) (Or.inr ⟨_, rfl⟩) dX12_init_104 f_X12_48 (Or.inr ⟨rfl, _, _, rfl⟩) (xdO_lt g9) (xdO_sh g9) rfl rfl ?_
  exact rc_X12_init_107 _ _ _ _ _ _ _ _ _ h
def C_X12_init_36 (v0 : Nat) (k q n : Nat) (sh : Nat → Nat × Nat) (hi : Nat → Nat → Int32) (hl : Nat → Nat → Int64) (hr : Nat → Nat → Option Nat) : Option xHp := if decide (k + 1 ≤ 31 ∧ q + 8 ≤ 10616 ∧ n + 1 ≤ 1000000) = true then if xdO (n + 1) (xsu sh n (0, 8)) v0 11 = true then if decide ((k + 1) + 1 ≤ 31 ∧ (q + 8) + 8 ≤ 10616 ∧ (n + 1) + 1 ≤ 1000000) = true then if xdO ((n + 1) + 1) (xsu (xsu sh n (0, 8)) (n + 1) (0, 8)) v0 11 = true then if decide (((k + 1) + 1) + 1 ≤ 31 ∧ ((q + 8) + 8) + 8 ≤ 10616 ∧ ((n + 1) + 1) + 1 ≤ 1000000) = true then if xdO (((n + 1) + 1) + 1) (xsu (xsu (xsu sh n (0, 8)) (n + 1) (0, 8)) ((n + 1) + 1) (0, 8)) v0 11 = true then if decide ((((k + 1) + 1) + 1) + 1 ≤ 31 ∧ (((q + 8) + 8) + 8) + 8 ≤ 10616 ∧ (((n + 1) + 1) + 1) + 1 ≤ 1000000) = true then if xdO ((((n + 1) + 1) + 1) + 1) (xsu (xsu (xsu (xsu sh n (0, 8)) (n + 1) (0, 8)) ((n + 1) + 1) (0, 8)) (((n + 1) + 1) + 1) (0, 8)) v0 11 = true then C_X12_init_68 v0 ((((k + 1) + 1) + 1) + 1) ((((q + 8) + 8) + 8) + 8) ((((n + 1) + 1) + 1) + 1) (xsu (xsu (xsu (xsu sh n (0, 8)) (n + 1) (0, 8)) ((n + 1) + 1) (0, 8)) (((n + 1) + 1) + 1) (0, 8)) (xz (xz (xz (xz hi n 0) (n + 1) 0) ((n + 1) + 1) 0) (((n + 1) + 1) + 1) 0) (xz (xz (xz (xz hl n 0) (n + 1) 0) ((n + 1) + 1) 0) (((n + 1) + 1) + 1) 0) (xu (xz (xu (xz (xu (xz (xu (xz hr n none) v0 7 (some n)) (n + 1) none) v0 8 (some (n + 1))) ((n + 1) + 1) none) v0 9 (some ((n + 1) + 1))) (((n + 1) + 1) + 1) none) v0 10 (some (((n + 1) + 1) + 1))) else none else none else none else none else none else none else none else none
set_option maxRecDepth 20000 in
set_option maxHeartbeats 2000000 in
theorem rc_X12_init_36 (v0 : Nat) (k q n : Nat) (sh : Nat → Nat × Nat) (hi : Nat → Nat → Int32) (hl : Nat → Nat → Int64) (hr : Nat → Nat → Option Nat) (o : xHp) (h : C_X12_init_36 v0 k q n sh hi hl hr = some o) : xR (RX12, cX12_init, 1, true, 0) (2, 31, 10616) z k q 36 [some (.ref v0)] [] (n, sh, hi, hl, hr) (none, o) := by
  refine x_aload_n (pc' := 37) dX12_init_36 rfl rfl ?_
  refine x_bipush (pc' := 39) (x := 8) dX12_init_37 (by decide) rfl ?_
  refine xg_if h (fun g1 h => ?_)
  refine x_newi (pc' := 41) (N := 8) dX12_init_39 w_aint (by decide) (by decide) (by decide) (of_decide_eq_true g1).1 (of_decide_eq_true g1).2.1 (of_decide_eq_true g1).2.2 rfl ?_
  refine xg_if h (fun g2 h => ?_)
  refine x_putr (pc' := 44) (Or.inr ⟨_, rfl⟩) dX12_init_41 f_X12_23 (Or.inr ⟨rfl, _, _, rfl⟩) (xdO_lt g2) (xdO_sh g2) rfl rfl ?_
  refine x_aload_n (pc' := 45) dX12_init_44 rfl rfl ?_
  refine x_bipush (pc' := 47) (x := 8) dX12_init_45 (by decide) rfl ?_
  refine xg_if h (fun g3 h => ?_)
  refine x_newi (pc' := 49) (N := 8) dX12_init_47 w_aint (by decide) (by decide) (by decide) (of_decide_eq_true g3).1 (of_decide_eq_true g3).2.1 (of_decide_eq_true g3).2.2 rfl ?_
  refine xg_if h (fun g4 h => ?_)
  refine x_putr (pc' := 52) (Or.inr ⟨_, rfl⟩) dX12_init_49 f_X12_26 (Or.inr ⟨rfl, _, _, rfl⟩) (xdO_lt g4) (xdO_sh g4) rfl rfl ?_
  refine x_aload_n (pc' := 53) dX12_init_52 rfl rfl ?_
  refine x_bipush (pc' := 55) (x := 8) dX12_init_53 (by decide) rfl ?_
  refine xg_if h (fun g5 h => ?_)
  refine x_newi (pc' := 57) (N := 8) dX12_init_55 w_aint (by decide) (by decide) (by decide) (of_decide_eq_true g5).1 (of_decide_eq_true g5).2.1 (of_decide_eq_true g5).2.2 rfl ?_
  refine xg_if h (fun g6 h => ?_)
  refine x_putr (pc' := 60) (Or.inr ⟨_, rfl⟩) dX12_init_57 f_X12_29 (Or.inr ⟨rfl, _, _, rfl⟩) (xdO_lt g6) (xdO_sh g6) rfl rfl ?_
  refine x_aload_n (pc' := 61) dX12_init_60 rfl rfl ?_
  refine x_bipush (pc' := 63) (x := 8) dX12_init_61 (by decide) rfl ?_
  refine xg_if h (fun g7 h => ?_)
  refine x_newi (pc' := 65) (N := 8) dX12_init_63 w_aint (by decide) (by decide) (by decide) (of_decide_eq_true g7).1 (of_decide_eq_true g7).2.1 (of_decide_eq_true g7).2.2 rfl ?_
  refine xg_if h (fun g8 h => ?_)
  refine x_putr (pc' := 68) (Or.inr ⟨_, rfl⟩) dX12_init_65 f_X12_32 (Or.inr ⟨rfl, _, _, rfl⟩) (xdO_lt g8) (xdO_sh g8) rfl rfl ?_
  exact rc_X12_init_68 _ _ _ _ _ _ _ _ _ h
def C_X12_init (v0 : Nat) (_ _ : Nat) (n : Nat) (sh : Nat → Nat × Nat) (hi : Nat → Nat → Int32) (hl : Nat → Nat → Int64) (hr : Nat → Nat → Option Nat) : Option xHp := if decide (0 + 1 ≤ 31 ∧ 0 + 6 ≤ 10616 ∧ n + 1 ≤ 1000000) = true then if xdO (n + 1) (xsu sh n (0, 6)) v0 11 = true then if decide ((0 + 1) + 1 ≤ 31 ∧ (0 + 6) + 6 ≤ 10616 ∧ (n + 1) + 1 ≤ 1000000) = true then if xdO ((n + 1) + 1) (xsu (xsu sh n (0, 6)) (n + 1) (0, 6)) v0 11 = true then if decide (((0 + 1) + 1) + 1 ≤ 31 ∧ ((0 + 6) + 6) + 72 ≤ 10616 ∧ ((n + 1) + 1) + 1 ≤ 1000000) = true then if xdO (((n + 1) + 1) + 1) (xsu (xsu (xsu sh n (0, 6)) (n + 1) (0, 6)) ((n + 1) + 1) (0, 72)) v0 11 = true then if decide ((((0 + 1) + 1) + 1) + 1 ≤ 31 ∧ (((0 + 6) + 6) + 72) + 72 ≤ 10616 ∧ (((n + 1) + 1) + 1) + 1 ≤ 1000000) = true then if xdO ((((n + 1) + 1) + 1) + 1) (xsu (xsu (xsu (xsu sh n (0, 6)) (n + 1) (0, 6)) ((n + 1) + 1) (0, 72)) (((n + 1) + 1) + 1) (1, 72)) v0 11 = true then C_X12_init_36 v0 ((((0 + 1) + 1) + 1) + 1) ((((0 + 6) + 6) + 72) + 72) ((((n + 1) + 1) + 1) + 1) (xsu (xsu (xsu (xsu sh n (0, 6)) (n + 1) (0, 6)) ((n + 1) + 1) (0, 72)) (((n + 1) + 1) + 1) (1, 72)) (xz (xz (xz (xz hi n 0) (n + 1) 0) ((n + 1) + 1) 0) (((n + 1) + 1) + 1) 0) (xz (xz (xz (xz hl n 0) (n + 1) 0) ((n + 1) + 1) 0) (((n + 1) + 1) + 1) 0) (xu (xz (xu (xz (xu (xz (xu (xz hr n none) v0 2 (some n)) (n + 1) none) v0 3 (some (n + 1))) ((n + 1) + 1) none) v0 4 (some ((n + 1) + 1))) (((n + 1) + 1) + 1) none) v0 5 (some (((n + 1) + 1) + 1))) else none else none else none else none else none else none else none else none
set_option maxRecDepth 20000 in
set_option maxHeartbeats 2000000 in
theorem rc_X12_init (v0 : Nat) (n : Nat) (sh : Nat → Nat × Nat) (hi : Nat → Nat → Int32) (hl : Nat → Nat → Int64) (hr : Nat → Nat → Option Nat) (o : xHp) (h : C_X12_init v0 0 0 n sh hi hl hr = some o) : xM yX12_init cX12_init 1 0 (2, 31, 10616) z [.ref v0] (n, sh, hi, hl, hr) (none, o) := by
  refine x_meth2 (C := RX12) (ini := true) (L := [some (.ref v0)]) rfl (by decide) (fun _ => rfl) (by decide) (Nat.le_of_ble_eq_true rfl) rfl ?_
  refine x_aload_n (pc' := 1) dX12_init_0 rfl rfl ?_
  refine x_oinit (pc' := 4) dX12_init_1 l_X12_1 w_oii w_oic (Nat.le_of_ble_eq_true rfl) (Nat.le_of_ble_eq_true rfl) rfl ?_
  refine x_aload_n (pc' := 5) dX12_init_4 rfl rfl ?_
  refine x_bipush (pc' := 7) (x := 6) dX12_init_5 (by decide) rfl ?_
  refine xg_if h (fun g1 h => ?_)
  refine x_newi (pc' := 9) (N := 6) dX12_init_7 w_aint (by decide) (by decide) (by decide) (of_decide_eq_true g1).1 (of_decide_eq_true g1).2.1 (of_decide_eq_true g1).2.2 rfl ?_
  refine xg_if h (fun g2 h => ?_)
  refine x_putr (pc' := 12) (Or.inr ⟨_, rfl⟩) dX12_init_9 f_X12_7 (Or.inr ⟨rfl, _, _, rfl⟩) (xdO_lt g2) (xdO_sh g2) rfl rfl ?_
  refine x_aload_n (pc' := 13) dX12_init_12 rfl rfl ?_
  refine x_bipush (pc' := 15) (x := 6) dX12_init_13 (by decide) rfl ?_
  refine xg_if h (fun g3 h => ?_)
  refine x_newi (pc' := 17) (N := 6) dX12_init_15 w_aint (by decide) (by decide) (by decide) (of_decide_eq_true g3).1 (of_decide_eq_true g3).2.1 (of_decide_eq_true g3).2.2 rfl ?_
  refine xg_if h (fun g4 h => ?_)
  refine x_putr (pc' := 20) (Or.inr ⟨_, rfl⟩) dX12_init_17 f_X12_13 (Or.inr ⟨rfl, _, _, rfl⟩) (xdO_lt g4) (xdO_sh g4) rfl rfl ?_
  refine x_aload_n (pc' := 21) dX12_init_20 rfl rfl ?_
  refine x_bipush (pc' := 23) (x := 72) dX12_init_21 (by decide) rfl ?_
  refine xg_if h (fun g5 h => ?_)
  refine x_newi (pc' := 25) (N := 72) dX12_init_23 w_aint (by decide) (by decide) (by decide) (of_decide_eq_true g5).1 (of_decide_eq_true g5).2.1 (of_decide_eq_true g5).2.2 rfl ?_
  refine xg_if h (fun g6 h => ?_)
  refine x_putr (pc' := 28) (Or.inr ⟨_, rfl⟩) dX12_init_25 f_X12_16 (Or.inr ⟨rfl, _, _, rfl⟩) (xdO_lt g6) (xdO_sh g6) rfl rfl ?_
  refine x_aload_n (pc' := 29) dX12_init_28 rfl rfl ?_
  refine x_bipush (pc' := 31) (x := 72) dX12_init_29 (by decide) rfl ?_
  refine xg_if h (fun g7 h => ?_)
  refine x_newl (pc' := 33) (N := 72) dX12_init_31 w_along (by decide) (by decide) (by decide) (of_decide_eq_true g7).1 (of_decide_eq_true g7).2.1 (of_decide_eq_true g7).2.2 rfl ?_
  refine xg_if h (fun g8 h => ?_)
  refine x_putr (pc' := 36) (Or.inr ⟨_, rfl⟩) dX12_init_33 f_X12_19 (Or.inr ⟨rfl, _, _, rfl⟩) (xdO_lt g8) (xdO_sh g8) rfl rfl ?_
  exact rc_X12_init_36 _ _ _ _ _ _ _ _ _ h
end
