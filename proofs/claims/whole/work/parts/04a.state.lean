def xshT : List (Nat × Nat) := [(15, 14), (5, 5), (0, 6), (0, 72), (1, 72), (0, 6), (12, 9), (0, 8), (0, 8), (0, 8), (0, 32), (0, 8), (0, 8), (0, 8), (9, 5), (10, 2), (10, 2), (4, 12), (10, 2), (10, 2), (10, 2), (10, 2), (10, 2), (10, 2), (10, 2), (10, 2), (10, 2), (10, 2), (10, 2), (10, 2), (8, 4), (0, 80), (0, 80), (13, 5), (0, 3), (0, 3), (14, 6), (0, 16), (0, 16), (0, 16), (0, 16), (6, 4), (3, 10), (7, 3), (0, 72), (1, 72), (7, 3), (0, 72), (1, 72), (7, 3), (0, 72), (1, 72), (7, 3), (0, 72), (1, 72), (7, 3), (0, 72), (1, 72), (7, 3), (0, 72), (1, 72), (7, 3), (0, 72), (1, 72), (7, 3), (0, 72), (1, 72), (7, 3), (0, 72), (1, 72), (7, 3), (0, 72), (1, 72), (7, 3), (0, 72), (1, 72), (3, 2), (7, 3), (0, 72), (1, 72), (7, 3), (0, 72), (1, 72), (11, 3), (0, 26), (10, 2), (10, 2), (0, 7), (0, 7), (0, 7), (16, 45), (0, 6), (0, 6), (0, 72), (1, 72), (0, 8), (0, 8), (0, 8), (0, 8), (0, 8), (0, 8), (0, 10), (0, 720), (1, 720), (0, 144), (1, 144), (0, 2), (0, 80), (0, 7), (0, 7), (0, 6), (0, 6), (2, 8192), (0, 72), (1, 72), (0, 12), (1, 12), (0, 3), (0, 3), (0, 16), (0, 80), (0, 104)]
def xsh (a : Nat) : Nat × Nat := xshT.getD a (0, 0)
def xhrT : List (List (Option Nat)) := [[some 1, some 6, some 14, some 30, some 33, some 36, some 41, some 76, some 83, some 85, some 86, some 87, some 88, some 89], [some 2, some 3, some 4, some 5, none], [], [], [], [], [some 1, some 7, some 8, some 9, some 10, some 11, some 12, some 13, none], [], [], [], [], [], [], [], [some 1, some 6, some 15, some 16, some 17], [none, none], [none, none], [], [none, none], [none, none], [none, none], [none, none], [none, none], [none, none], [none, none], [none, none], [none, none], [none, none], [none, none], [none, none], [some 31, some 32, none, none], [], [], [some 30, some 34, some 35, none, none], [], [], [some 30, some 6, some 37, some 38, some 39, some 40], [], [], [], [], [some 42, some 43, none, none], [], [], [], [], [], [], [], [], [], [], [], [], [], [], [], [], [], [], [], [], [], [], [], [], [], [], [], [], [], [], [], [], [], [], [], [], [], [], [], [], [], [some 84, none, none], [], [none, none], [none, none], [], [], [], [none, none, some 91, some 92, some 93, some 94, none, some 95, some 96, some 97, some 98, some 99, some 100, none, none, none, some 101, some 102, some 103, some 104, some 105, some 106, none, some 107, some 108, some 109, none, some 110, some 111, none, some 112, none, none, none, some 113, some 114, some 115, some 116, none, none, some 117, some 118, some 119, some 120, some 121], [], [], [], [], [], [], [], [], [], [], [], [], [], [], [], [], [], [], [], [], [], [], [], [], [], [], [], [], [], [], []]
abbrev xRr : Type := Nat × (Nat → Option Nat)
abbrev xSt : Type := (Nat → Nat → Int32) × (Nat → Nat → Int64) × xRr
/-- the references: those of the history's mark and ring come with the state; an image's rows lie behind it; the rest stays as the constructors laid it -/
def xhr (r : xRr) (a j : Nat) : Option Nat :=
  if a = 41 ∧ j = 1 then some r.1 else if a = 42 then r.2 j else if a = 17 then (if j < 12 then some (18 + j) else none) else if a = 76 then (if j = 0 then some 77 else if j = 1 then some 80 else none)
  else if (xsh a).1 = 7 then (if j = 0 then some (a + 1) else if j = 1 then some (a + 2) else none) else (xhrT.getD a []).getD j none
abbrev xhp (hi : Nat → Nat → Int32) (hl : Nat → Nat → Int64) (r : xRr) : xHp := (122, xsh, hi, hl, xhr r)
abbrev xoI (o : Int32 × xSt) : xOut := (some (.int o.1), xhp o.2.1 o.2.2.1 o.2.2.2)
abbrev xoL (o : Int64 × xSt) : xOut := (some (.long o.1), xhp o.2.1 o.2.2.1 o.2.2.2)
abbrev xoV (o : xSt) : xOut := (none, xhp o.1 o.2.1 o.2.2)
theorem xhr_mark (r : xRr) (t : Nat) : xu (xhr r) 41 1 (some t) = xhr (t, r.2) := by
  funext a j
  by_cases h : a = 41 ∧ j = 1
  · simp [xu, xhr, h]
  · simp only [xu, xhr, if_neg h]
theorem xhr_ring (r : xRr) (i t : Nat) : xu (xhr r) 42 i (some t) = xhr (r.1, va_up r.2 i (some t)) := by
  funext a j
  by_cases h : a = 42
  · subst h
    by_cases hj : j = i
    · subst hj; simp [xu, xhr, va_up]
    · simp [xu, xhr, va_up, hj]
  · simp [xu, xhr, h]
def xok (i : Int32) (N : Nat) : Bool := decide (0 ≤ i.toInt) && decide (i.toInt < N)
theorem xok_in {i : Int32} {N : Nat} (h : xok i N = true) : vp_in i N := by
  simp only [xok, Bool.and_eq_true, decide_eq_true_eq] at h
  exact vp_in_iff.mpr h
def xisO (t ci : Nat) : Bool := decide (t < 122) && decide (xsh t = (ci + 5, xnf ci))
theorem xisO_lt {t ci : Nat} (h : xisO t ci = true) : t < 122 := by
  simp only [xisO, Bool.and_eq_true, decide_eq_true_eq] at h
  exact h.1
theorem xisO_sh {t ci : Nat} (h : xisO t ci = true) : xsh t = (ci + 5, xnf ci) := by
  simp only [xisO, Bool.and_eq_true, decide_eq_true_eq] at h
  exact h.2
def xokA (t kd : Nat) (i : Int32) : Bool := decide (t < 122) && (decide ((xsh t).1 = kd) && xok i (xsh t).2)
theorem xokA_lt {t kd : Nat} {i : Int32} (h : xokA t kd i = true) : t < 122 := by
  simp only [xokA, Bool.and_eq_true, decide_eq_true_eq] at h
  exact h.1
theorem xokA_sh {t kd : Nat} {i : Int32} (h : xokA t kd i = true) : xsh t = (kd, (xsh t).2) := by
  simp only [xokA, Bool.and_eq_true, decide_eq_true_eq] at h
  exact Prod.ext h.2.1 rfl
theorem xokA_in {t kd : Nat} {i : Int32} (h : xokA t kd i = true) : vp_in i (xsh t).2 := by
  simp only [xokA, Bool.and_eq_true, decide_eq_true_eq] at h
  exact xok_in h.2.2
def xcpG (a0 a kd : Nat) (sp dp cn : Int32) : Bool := decide (a < 122) && decide (a0 < 122) && decide ((xsh a).1 = kd) && decide ((xsh a0).1 = kd) && decide (¬ sp < 0) && decide (¬ dp < 0) && decide (¬ cn < 0) && decide (sp.toNatClampNeg + cn.toNatClampNeg ≤ (xsh a0).2) && decide (dp.toNatClampNeg + cn.toNatClampNeg ≤ (xsh a).2)
section XCP
variable {a0 a kd : Nat} {sp dp cn : Int32}
theorem xcpG_all (h : xcpG a0 a kd sp dp cn = true) : a < 122 ∧ a0 < 122 ∧ (xsh a).1 = kd ∧ (xsh a0).1 = kd ∧ ¬ sp < 0 ∧ ¬ dp < 0 ∧ ¬ cn < 0 ∧ sp.toNatClampNeg + cn.toNatClampNeg ≤ (xsh a0).2 ∧ dp.toNatClampNeg + cn.toNatClampNeg ≤ (xsh a).2 := by
  simp only [xcpG, Bool.and_eq_true, decide_eq_true_eq] at h
  obtain ⟨⟨⟨⟨⟨⟨⟨⟨h1, h2⟩, h3⟩, h4⟩, h5⟩, h6⟩, h7⟩, h8⟩, h9⟩ := h
  exact ⟨h1, h2, h3, h4, h5, h6, h7, h8, h9⟩
theorem xcpG_1 (h : xcpG a0 a kd sp dp cn = true) : a < 122 := (xcpG_all h).1
theorem xcpG_2 (h : xcpG a0 a kd sp dp cn = true) : xsh a = (kd, (xsh a).2) := Prod.ext (xcpG_all h).2.2.1 rfl
theorem xcpG_3 (h : xcpG a0 a kd sp dp cn = true) : a0 < 122 := (xcpG_all h).2.1
theorem xcpG_4 (h : xcpG a0 a kd sp dp cn = true) : xsh a0 = (kd, (xsh a0).2) := Prod.ext (xcpG_all h).2.2.2.1 rfl
theorem xcpG_5 (h : xcpG a0 a kd sp dp cn = true) : xnoMo cn dp sp (xsh a0).2 (xsh a).2 := (xcpG_all h).2.2.2.2
end XCP
def xbI {β : Type} (X : Option (Int32 × xSt)) (K : Int32 → (Nat → Nat → Int32) → (Nat → Nat → Int64) → xRr → Option β) : Option β := match X with
  | none => none
  | some q => K q.1 q.2.1 q.2.2.1 q.2.2.2
def xbV {β : Type} (X : Option xSt) (K : (Nat → Nat → Int32) → (Nat → Nat → Int64) → xRr → Option β) : Option β := match X with
  | none => none
  | some q => K q.1 q.2.1 q.2.2
def xbP {α β : Type} (X : Option α) (K : α → Option β) : Option β := match X with
  | none => none
  | some q => K q
def xbO {β : Type} (X : Option Nat) (K : Nat → Option β) : Option β := match X with
  | none => none
  | some q => K q
theorem xg_ite {α : Type} {c P : Prop} {dc : Decidable c} {A B : Option α} {o : α} (h : (if c then A else B) = some o) (ka : c → A = some o → P) (kb : ¬ c → B = some o → P) : P := by
  by_cases hc : c
  · rw [if_pos hc] at h; exact ka hc h
  · rw [if_neg hc] at h; exact kb hc h
theorem xg_if {α : Type} {c : Bool} {P : Prop} {A : Option α} {o : α} (h : (if c = true then A else none) = some o) (k : c = true → A = some o → P) : P := xg_ite h k (fun _ h => by cases h)
theorem xg_or {α : Type} {x : Int32} {P : Prop} {A : Option α} {o : α} (h : (if x = 0 ∨ x = 1 then A else none) = some o) (k : (x = 0 ∨ x = 1) → A = some o → P) : P := xg_ite h k (fun _ h => by cases h)
theorem xg_nz {α : Type} {c P : Prop} {dc : Decidable c} {A : Option α} {o : α} (h : (if c then none else A) = some o) (k : ¬ c → A = some o → P) : P := xg_ite h (fun _ h => by cases h) k
theorem xg_bI {β : Type} {X : Option (Int32 × xSt)} {K : Int32 → (Nat → Nat → Int32) → (Nat → Nat → Int64) → xRr → Option β} {o : β} {P : Prop} (h : xbI X K = some o) (k : ∀ v hi hl r, X = some (v, hi, hl, r) → K v hi hl r = some o → P) : P := by
  cases X with
  | none => cases h
  | some q => exact k q.1 q.2.1 q.2.2.1 q.2.2.2 rfl h
theorem xg_bV {β : Type} {X : Option xSt} {K : (Nat → Nat → Int32) → (Nat → Nat → Int64) → xRr → Option β} {o : β} {P : Prop} (h : xbV X K = some o) (k : ∀ hi hl r, X = some (hi, hl, r) → K hi hl r = some o → P) : P := by
  cases X with
  | none => cases h
  | some q => exact k q.1 q.2.1 q.2.2 rfl h
theorem xg_bP {α β : Type} {X : Option α} {K : α → Option β} {o : β} {P : Prop} (h : xbP X K = some o) (k : ∀ v, X = some v → K v = some o → P) : P := by
  cases X with
  | none => cases h
  | some q => exact k q rfl h
theorem xg_bO {β : Type} {X : Option Nat} {K : Nat → Option β} {o : β} {P : Prop} (h : xbO X K = some o) (k : ∀ v, X = some v → K v = some o → P) : P := by
  cases X with
  | none => cases h
  | some q => exact k q rfl h
theorem x_meth2 {y : MethodName} {C : String} {cc : ByteArray} {nL rk : Nat} {b : xBd} {z : xZ} {As : List Value} {H : xHp} {o : xOut} {ini : Bool} {L : List (Option Value)} (hC : y.cls = C) (hy : plainName C = true) (hini : ini = true → y.name = "<init>") (hrk : rk ≤ 3) (hlen : (xin As).length ≤ nL) (hL : xin As ++ List.replicate (nL - (xin As).length) none = L)
    (kk : xR (C, cc, nL, ini, rk) b z 0 0 0 L [] H o) : xM y cc nL rk b z As H o := by
  subst hC
  exact x_meth hy hini hrk hlen hL kk
section XMT
variable {w : xWt} {b : xBd} {z : xZ} {k q pc pc' idx : Nat} {L : List (Option Value)} {S : List Value} {H : xHp} {o : xOut}
theorem x_mmax {x y : Int32} (hd : decode w.2.1 pc = .ok (.invokestatic idx, 3)) (hlk : Cond.methodLink w.1 idx Lib.Math.max.name ∈ xTB) (h1 : Cond.static Lib.Math.max.name ∈ xTB) (h2 : Cond.initialized "java/lang/Math" ∈ xTB) (h3 : Cond.code Lib.Math.max.name Lib.Math.max.code 2 (some .int) ∈ xTB) (hS : (S.map fun v => v.category).sum ≤ 8) (hb1 : 1 ≤ b.1) (hk : k ≤ b.2.1) (hq : q ≤ b.2.2) (hp : pc + 3 = pc') (kk : xR w b z k q pc' L (.int (if x < y then y else x) :: S) H o) : xR w b z k q pc L (.int y :: .int x :: S) H o := by
  intro p l e R s m args below meth c E Q Hh locs ls hC hE hR hL
  subst hp
  have hfr := hC.2.2.2.2.2.2.2.2.1
  have hlo := hC.2.2.2.2.2.2.2.2.2.1
  have hce := hC.2.2.2.2.2.2.2.2.2.2.1
  have hsl := hC.2.2.2.2.2.2.2.2.2.2.2
  exact va_mmax hC.1 hC.2.1 (hC.2.2.1.trans hL.2.1.symm) hC.2.2.2.1 (hC.2.2.2.2.1 _ hlk) (hC.2.2.2.2.1 _ h1) (hC.2.2.2.2.1 _ h2) (hC.2.2.2.2.1 _ h3) (by omega) (by rw [xcat_sum]; omega) (by omega) (by omega) hd (kk p l e R s m args below meth c E Q Hh locs ls hC hE hR hL)
theorem x_mmin {x y : Int32} (hd : decode w.2.1 pc = .ok (.invokestatic idx, 3)) (hlk : Cond.methodLink w.1 idx Lib.Math.min.name ∈ xTB) (h1 : Cond.static Lib.Math.min.name ∈ xTB) (h2 : Cond.initialized "java/lang/Math" ∈ xTB) (h3 : Cond.code Lib.Math.min.name Lib.Math.min.code 2 (some .int) ∈ xTB) (hS : (S.map fun v => v.category).sum ≤ 8) (hb1 : 1 ≤ b.1) (hk : k ≤ b.2.1) (hq : q ≤ b.2.2) (hp : pc + 3 = pc') (kk : xR w b z k q pc' L (.int (if y < x then y else x) :: S) H o) : xR w b z k q pc L (.int y :: .int x :: S) H o := by
  intro p l e R s m args below meth c E Q Hh locs ls hC hE hR hL
  subst hp
  have hfr := hC.2.2.2.2.2.2.2.2.1
  have hlo := hC.2.2.2.2.2.2.2.2.2.1
  have hce := hC.2.2.2.2.2.2.2.2.2.2.1
  have hsl := hC.2.2.2.2.2.2.2.2.2.2.2
  exact va_mmin hC.1 hC.2.1 (hC.2.2.1.trans hL.2.1.symm) hC.2.2.2.1 (hC.2.2.2.2.1 _ hlk) (hC.2.2.2.2.1 _ h1) (hC.2.2.2.2.1 _ h2) (hC.2.2.2.2.1 _ h3) (by omega) (by rw [xcat_sum]; omega) (by omega) (by omega) hd (kk p l e R s m args below meth c E Q Hh locs ls hC hE hR hL)
theorem x_mmaxl {x y : Int64} (hd : decode w.2.1 pc = .ok (.invokestatic idx, 3)) (hlk : Cond.methodLink w.1 idx Lib.MathLoose.max_long.x ∈ xTB) (h1 : Cond.static Lib.MathLoose.max_long.x ∈ xTB) (h2 : Cond.initialized "java/lang/Math" ∈ xTB) (h3 : Cond.code Lib.MathLoose.max_long.x Lib.MathLoose.max_long.code 4 (some .long) ∈ xTB) (hS : (S.map fun v => v.category).sum ≤ 8) (hb1 : 1 ≤ b.1) (hk : k ≤ b.2.1) (hq : q ≤ b.2.2) (hp : pc + 3 = pc') (kk : xR w b z k q pc' L (.long (if y < x then x else y) :: S) H o) : xR w b z k q pc L (.long y :: .long x :: S) H o := by
  intro p l e R s m args below meth c E Q Hh locs ls hC hE hR hL
  subst hp
  have hfr := hC.2.2.2.2.2.2.2.2.1
  have hlo := hC.2.2.2.2.2.2.2.2.2.1
  have hce := hC.2.2.2.2.2.2.2.2.2.2.1
  have hsl := hC.2.2.2.2.2.2.2.2.2.2.2
  exact va_mmax_long hC.1 hC.2.1 (hC.2.2.1.trans hL.2.1.symm) hC.2.2.2.1 (hC.2.2.2.2.1 _ hlk) (hC.2.2.2.2.1 _ h1) (hC.2.2.2.2.1 _ h2) (hC.2.2.2.2.1 _ h3) (by omega) (by rw [xcat_sum]; omega) (by omega) (by omega) hd (kk p l e R s m args below meth c E Q Hh locs ls hC hE hR hL)
theorem x_mabsl {x : Int64} (hd : decode w.2.1 pc = .ok (.invokestatic idx, 3)) (hlk : Cond.methodLink w.1 idx Lib.MathLoose.abs_long.x ∈ xTB) (h1 : Cond.static Lib.MathLoose.abs_long.x ∈ xTB) (h2 : Cond.initialized "java/lang/Math" ∈ xTB) (h3 : Cond.code Lib.MathLoose.abs_long.x Lib.MathLoose.abs_long.code 2 (some .long) ∈ xTB) (hS : (S.map fun v => v.category).sum ≤ 8) (hb1 : 1 ≤ b.1) (hk : k ≤ b.2.1) (hq : q ≤ b.2.2) (hp : pc + 3 = pc') (kk : xR w b z k q pc' L (.long (if 0 < x then x else -x) :: S) H o) : xR w b z k q pc L (.long x :: S) H o := by
  intro p l e R s m args below meth c E Q Hh locs ls hC hE hR hL
  subst hp
  have hfr := hC.2.2.2.2.2.2.2.2.1
  have hlo := hC.2.2.2.2.2.2.2.2.2.1
  have hce := hC.2.2.2.2.2.2.2.2.2.2.1
  have hsl := hC.2.2.2.2.2.2.2.2.2.2.2
  exact va_mabs_long hC.1 hC.2.1 (hC.2.2.1.trans hL.2.1.symm) hC.2.2.2.1 (hC.2.2.2.2.1 _ hlk) (hC.2.2.2.2.1 _ h1) (hC.2.2.2.2.1 _ h2) (hC.2.2.2.2.1 _ h3) (by omega) (by rw [xcat_sum]; omega) (by omega) (by omega) hd (kk p l e R s m args below meth c E Q Hh locs ls hC hE hR hL)
end XMT
theorem ma_J9_max_7cf53 : Cond.static Lib.Math.max.name ∈ xTB := xTB_of 577 (by decide +kernel) rfl
theorem mb_J9_max_7cf53 : Cond.code Lib.Math.max.name Lib.Math.max.code 2 (some .int) ∈ xTB := xTB_of 578 (by decide +kernel) rfl
theorem ml_X5_128 : Cond.methodLink RX5 128 Lib.Math.max.name ∈ xTB := xTB_of 576 (by decide +kernel) rfl
theorem ml_X2_34 : Cond.methodLink RX2 34 Lib.Math.max.name ∈ xTB := xTB_of 620 (by decide +kernel) rfl
theorem ml_X10_51 : Cond.methodLink RX10 51 Lib.Math.max.name ∈ xTB := xTB_of 762 (by decide +kernel) rfl
theorem ma_J9_min_7cf53 : Cond.static Lib.Math.min.name ∈ xTB := xTB_of 546 (by decide +kernel) rfl
theorem mb_J9_min_7cf53 : Cond.code Lib.Math.min.name Lib.Math.min.code 2 (some .int) ∈ xTB := xTB_of 547 (by decide +kernel) rfl
theorem ml_X1_33 : Cond.methodLink RX1 33 Lib.Math.min.name ∈ xTB := xTB_of 545 (by decide +kernel) rfl
theorem ml_X5_152 : Cond.methodLink RX5 152 Lib.Math.min.name ∈ xTB := xTB_of 602 (by decide +kernel) rfl
theorem ml_X8_85 : Cond.methodLink RX8 85 Lib.Math.min.name ∈ xTB := xTB_of 814 (by decide +kernel) rfl
theorem ma_J9_max_f86c9 : Cond.static Lib.MathLoose.max_long.x ∈ xTB := xTB_of 584 (by decide +kernel) rfl
theorem mb_J9_max_f86c9 : Cond.code Lib.MathLoose.max_long.x Lib.MathLoose.max_long.code 4 (some .long) ∈ xTB := xTB_of 585 (by decide +kernel) rfl
theorem ml_X5_133 : Cond.methodLink RX5 133 Lib.MathLoose.max_long.x ∈ xTB := xTB_of 583 (by decide +kernel) rfl
theorem ma_J9_abs_067f4 : Cond.static Lib.MathLoose.abs_long.x ∈ xTB := xTB_of 438 (by decide +kernel) rfl
theorem mb_J9_abs_067f4 : Cond.code Lib.MathLoose.abs_long.x Lib.MathLoose.abs_long.code 2 (some .long) ∈ xTB := xTB_of 439 (by decide +kernel) rfl
theorem ml_X3_20 : Cond.methodLink RX3 20 Lib.MathLoose.abs_long.x ∈ xTB := xTB_of 437 (by decide +kernel) rfl
theorem mc_math : Cond.initialized "java/lang/Math" ∈ xTB := xTB_of 72 (by decide +kernel) rfl

