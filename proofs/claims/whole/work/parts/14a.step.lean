/-! a step, as a function of the cells -/
abbrev yC : Type := (Nat → Nat) × (Nat → Int64)
def updC (C : yC) (c : Nat) (z : Nat × Int64) : yC := (fun k => if k = c then z.1 else C.1 k, fun k => if k = c then z.2 else C.2 k)
def thg (E : yE) (C : yC) (v : Nat) (p : Int) : Nat × Int64 := cup (kl E v) (C.1 (cix E v p), C.2 (cix E v p))
def wrt (E : yE) (C : yC) (v : Nat) (p : Int) (x : Nat × Int64) (y : Nat) : Int32 × yC := if wrc E v p x.1 y = 0 then (0, updC C (cix E v p) (cup (dl E v) x)) else (wrc E v p x.1 y, C)
def swp (E : yE) (C : yC) (a : Nat) (p : Int) (b : Nat) (q : Int) (x z : Nat × Int64) : Int32 × yC :=
  if wrc E b q x.1 (eVk E a) = 0 then (if wrc E a p z.1 (eVk E b) = 0 then (0, updC (updC C (cix E b q) (cup (dl E b) x)) (cix E a p) (cup (dl E a) z)) else (wrc E a p z.1 (eVk E b), C)) else (wrc E b q x.1 (eVk E a), C)
def nt (k : Nat) : Int32 := if k = 10 then -9 else if k = 9 ∨ k = 0 then -7 else 0
def cmb (w : Nat) (u v : Int64) : Int64 := if w = 1 then u + v else if w = 2 then v - u else if v < u then u else v
def wdr (a b : Nat) : Nat := max 4 (max a b)
def rkn (w k : Nat) (u v : Int64) : Int64 := if k = 4 then (cmb w u v).toInt32.toInt64 else rnd k (cmb w u v)
def inE (g : Int64) : Prop := (-1152921504606846976 : Int64).toInt ≤ g.toInt ∧ g.toInt ≤ (1152921504606846976 : Int64).toInt
noncomputable def rck (E : yE) (C : yC) (w b : Nat) (q : Int) (x z : Nat × Int64) : Int32 × yC :=
  if nt x.1 = 0 then (if nt z.1 = 0 then
    (if 4 < wdr x.1 z.1 ∧ b1 (inE (rkn w (wdr x.1 z.1) (rnd (wdr x.1 z.1) x.2) (rnd (wdr x.1 z.1) z.2))) = 0 then (-10, C)
     else wrt E C b q (wdr x.1 z.1, rkn w (wdr x.1 z.1) (rnd (wdr x.1 z.1) x.2) (rnd (wdr x.1 z.1) z.2)) (if eVk E b = 8 then 8 else wdr x.1 z.1))
    else (nt z.1, C)) else (nt x.1, C)
noncomputable def stp (E : yE) (C : yC) (w a : Nat) (p : Int) (b : Nat) (q : Int) : Int32 × yC :=
  if rdc E a p = 0 then
    (if w = 0 then wrt E C b q (thg E C a p) (eVk E a)
     else if rdc E b q = 0 then (if w = 4 then swp E C a p b q (thg E C a p) (thg E C b q) else rck E C w b q (thg E C a p) (thg E C b q))
     else (rdc E b q, C))
  else (rdc E a p, C)
theorem noTerm_c : ∀ k, k < 11 → F_X5_noTerm (nI k) = some (nt k) := by decide +kernel
theorem wider_c : ∀ a, a < 11 → ∀ b, b < 11 → F_X5_widerKind (nI a) (nI b) = some (nI (wdr a b)) := by decide +kernel
theorem wdr_le {a b : Nat} (ha : a ≤ 7) (hb : b ≤ 7) : 4 ≤ wdr a b ∧ wdr a b ≤ 7 := by unfold wdr; omega
theorem nt_0 {x : Nat × Int64} (hx : okt x) (h : nt x.1 = 0) : 1 ≤ x.1 ∧ x.1 ≤ 7 := by
  unfold nt at h
  have h1 := hx.1
  by_cases c : x.1 = 10
  · rw [if_pos c] at h
    exact absurd h (by decide +kernel)
  · rw [if_neg c] at h
    by_cases d : x.1 = 9 ∨ x.1 = 0
    · rw [if_pos d] at h
      exact absurd h (by decide +kernel)
    · omega
theorem combined_c {w : Nat} (hw : w ≤ 4) (u v : Int64) : F_X5_combined (nI w) u v = some (cmb w u v) := by
  have e1 : (nI w = (1 : Int32)) = (w = 1) := nI_eq' (b := 1) (by omega) (by decide)
  have e2 : (nI w = (2 : Int32)) = (w = 2) := nI_eq' (b := 2) (by omega) (by decide)
  unfold F_X5_combined cmb
  simp only [e1, e2]
  by_cases c1 : w = 1
  · rw [if_pos c1, if_pos c1]
  · rw [if_neg c1, if_neg c1]
    by_cases c2 : w = 2
    · rw [if_pos c2, if_pos c2]
    · rw [if_neg c2, if_neg c2]
theorem reckoned_m {w k : Nat} (hw : w ≤ 4) (hk : k ≤ 12) (u v : Int64) : F_X12_reckoned (nI w) (nI k) u v = some (rkn w k u v) := by
  have e1 : (nI w = (1 : Int32)) = (w = 1) := nI_eq' (b := 1) (by omega) (by decide)
  have e2 : (nI w = (2 : Int32)) = (w = 2) := nI_eq' (b := 2) (by omega) (by decide)
  have k4 : (nI k = (4 : Int32)) = (k = 4) := nI_eq' (b := 4) (by omega) (by decide)
  have z : ∀ s, F_X12_reckoned_37 (nI k) s = some (if k = 4 then s.toInt32.toInt64 else rnd k s) := by
    intro s
    unfold F_X12_reckoned_37
    simp only [k4]
    by_cases c : k = 4
    · rw [if_pos c, if_pos c]
    · rw [if_neg c, if_neg c, as_m k hk, xbP_some]
  unfold F_X12_reckoned rkn cmb
  simp only [e1, e2, z, lg_le]
  by_cases c1 : w = 1
  · simp only [if_pos c1]
  · simp only [if_neg c1]
    by_cases c2 : w = 2
    · simp only [if_pos c2]
    · simp only [if_neg c2]
      by_cases c3 : u ≤ v
      · have c4 : ¬ v < u := fun q => by
          have a1 := Int64.lt_iff_toInt_lt.mp q
          have a2 := Int64.le_iff_toInt_le.mp c3
          omega
        simp only [if_pos c3, if_neg c4]
      · have c4 : v < u := by
          have a2 : ¬ u.toInt ≤ v.toInt := fun q => c3 (Int64.le_iff_toInt_le.mpr q)
          exact Int64.lt_iff_toInt_lt.mpr (by omega)
        simp only [if_neg c3, if_pos c4]
theorem rkn_r (w k : Nat) (u v : Int64) : rnd k (rkn w k u v) = rkn w k u v := by
  unfold rkn
  by_cases c : k = 4
  · rw [if_pos c, c]
    rfl
  · rw [if_neg c, rnd_idem]
theorem CC.u {nb : Nat} {C : yC} {hi : Nat → Nat → Int32} {hl : Nat → Nat → Int64} (h : CC nb C.1 C.2 hi hl) (c : Nat) (z : Nat × Int64) : CC nb (updC C c z).1 (updC C c z).2 (xu hi 3 c (nI z.1)) (xu hl 4 c z.2) := by
  intro k hk
  unfold updC
  by_cases e : k = c
  · subst e
    simp only [if_true]
    exact ⟨xu_at _ _ _ _, xu_at _ _ _ _⟩
  · simp only [if_neg e]
    rw [xu_ne2 _ _ (Or.inr e), xu_ne2 _ _ (Or.inr e)]
    exact h k hk
theorem MC.u {nb : Nat} {C : yC} {hi : Nat → Nat → Int32} {hl : Nat → Nat → Int64} (h : MC nb C.1 C.2 hi hl) (c : Nat) (z : Nat × Int64) : MC nb (updC C c z).1 (updC C c z).2 (xu hi 93 c (nI z.1)) (xu hl 94 c z.2) := by
  intro k hk
  unfold updC
  by_cases e : k = c
  · subst e
    simp only [if_true]
    exact ⟨xu_at _ _ _ _, xu_at _ _ _ _⟩
  · simp only [if_neg e]
    rw [xu_ne2 _ _ (Or.inr e), xu_ne2 _ _ (Or.inr e)]
    exact h k hk
theorem CC.fr {nb : Nat} {ck : Nat → Nat} {cn : Nat → Int64} {hi hi' : Nat → Nat → Int32} {hl hl' : Nat → Nat → Int64} (h : CC nb ck cn hi hl) (a : hi' 3 = hi 3) (b : hl' 4 = hl 4) : CC nb ck cn hi' hl' := by
  intro k hk
  rw [a, b]
  exact h k hk
theorem MC.fr {nb : Nat} {ck : Nat → Nat} {cn : Nat → Int64} {hi hi' : Nat → Nat → Int32} {hl hl' : Nat → Nat → Int64} (h : MC nb ck cn hi hl) (a : hi' 93 = hi 93) (b : hl' 94 = hl 94) : MC nb ck cn hi' hl' := by
  intro k hk
  rw [a, b]
  exact h k hk
theorem isTh.n {t : Nat} (h : isTh t) : t ≠ 3 ∧ t ≠ 4 := by
  unfold isTh at h
  revert t
  decide
section STEP
variable {hi : Nat → Nat → Int32} {hl : Nat → Nat → Int64} {r : xRr} {nb nv : Nat} {vb : Nat → Nat} {E : yE} {C : yC}
theorem thg_ok (h : EV nb nv vb E hi) (hO : OKC nb (eBk E) C.1 C.2) {v : Nat} (hv : v < nv) {p : Int} (h0 : rdc E v p = 0) : okt (thg E C v p) := by
  obtain ⟨x, ex, hb, ec⟩ := rdc_0 h hv h0
  have hci := (inb_ix h hv hb).1
  rw [← ec] at hci
  have := hO _ hci
  exact okt_cup (x := (C.1 (cix E v p), C.2 (cix E v p))) ⟨this.1, this.2.2.1, this.2.2.2⟩ _
theorem put_c (h : EV nb nv vb E hi) (hC : CC nb C.1 C.2 hi hl) {v p t y : Nat} {x : Nat × Int64} (ht : isTh t) (hv : v < nv) (hp : p ≤ 100) (hx : x.1 ≤ 10) (hy : y ≤ 8) (e1 : hi t 0 = nI x.1) (e2 : hl t 1 = x.2) : ∃ hi' hl', F_X5_put (nI v) (nI p) t (nI y) hi hl r = some ((wrt E C v (p : Int) x y).1, hi', hl', r) ∧ CC nb (wrt E C v (p : Int) x y).2.1 (wrt E C v (p : Int) x y).2.2 hi' hl' ∧ (∀ a, a ∉ [3, t] → hi' a = hi a) ∧ (∀ a, a ∉ [4, t] → hl' a = hl a) := by
  have t3 := ht.n
  unfold wrt
  by_cases c : wrc E v (p : Int) x.1 y = 0
  · rw [if_pos c]
    refine ⟨_, _, put_y (r := r) h ht hv hp hx hy e1 e2 c, ?_, fun a ha => ?_, fun a ha => ?_⟩
    · exact (hC.fr (xu_ne _ _ _ (fun e => t3.1 e.symm)) (xu_ne _ _ _ (fun e => t3.2 e.symm))).u (cix E v (p : Int)) (cup (dl E v) x)
    · simp only [List.mem_cons, List.not_mem_nil, or_false, not_or] at ha
      rw [xu_ne _ _ _ ha.1, xu_ne _ _ _ ha.2]
    · simp only [List.mem_cons, List.not_mem_nil, or_false, not_or] at ha
      rw [xu_ne _ _ _ ha.1, xu_ne _ _ _ ha.2]
  · rw [if_neg c]
    exact ⟨hi, hl, put_n (hl := hl) (r := r) h ht hv hp hx hy e1 c, hC, fun _ _ => rfl, fun _ _ => rfl⟩
theorem EV.ne {hi' : Nat → Nat → Int32} (h : EV nb nv vb E hi) {X : List Nat} (hX : ∀ a, a ∉ X → hi' a = hi a) (hd : (90 :: xEr).all (fun a => decide (a ∉ X)) = true) : EV nb nv vb E hi' := by
  have k := lx hX hd
  refine h.fr (fun a ha => k a (List.mem_cons_of_mem _ ha)) ?_ ?_
  · rw [k 90 (List.mem_cons_self ..)]
  · rw [k 90 (List.mem_cons_self ..)]
theorem swap_c (h : EV nb nv vb E hi) (hC : CC nb C.1 C.2 hi hl) {a p b q : Nat} {x z : Nat × Int64} (ha : a < nv) (hp : p ≤ 100) (hb : b < nv) (hq : q ≤ 100) (hx : x.1 ≤ 10) (hz : z.1 ≤ 10) (e1 : hi 15 0 = nI x.1) (e2 : hl 15 1 = x.2) (e3 : hi 16 0 = nI z.1) (e4 : hl 16 1 = z.2) : ∃ hi' hl', F_X5_swap (nI a) (nI p) (nI b) (nI q) hi hl r = some ((swp E C a (p : Int) b (q : Int) x z).1, hi', hl', r) ∧ CC nb (swp E C a (p : Int) b (q : Int) x z).2.1 (swp E C a (p : Int) b (q : Int) x z).2.2 hi' hl' ∧ (∀ a, a ∉ [3, 15, 16] → hi' a = hi a) ∧ (∀ a, a ∉ [4, 15, 16] → hl' a = hl a) := by
  obtain ⟨n8, n6, -, -, -, -, -, a12, -, ak8⟩ := ev_v h ha
  obtain ⟨-, -, -, -, -, -, -, b12, -, bk8⟩ := ev_v h hb
  have sr : F_X5_swapRefusal (nI a) (nI p) (nI x.1) (nI b) (nI q) (nI z.1) hi hl r = some (if wrc E b (q : Int) x.1 (eVk E a) = 0 then wrc E a (p : Int) z.1 (eVk E b) else wrc E b (q : Int) x.1 (eVk E a), hi, hl, r) := by
    unfold F_X5_swapRefusal
    rw [if_pos (xok_t (by omega) (by decide)), cl_nI (by omega), a12, writeRef_c h hb hq hx ak8, xbI_some, if_pos (xok_t (by omega) (by decide)), cl_nI (by omega), b12, writeRef_c h ha hp hz bk8, xbI_some]
    by_cases c : wrc E b (q : Int) x.1 (eVk E a) = 0
    · rw [if_pos c, if_pos c]
    · rw [if_neg c, if_neg c]
  unfold F_X5_swap swp
  rw [e1, e3, sr, xbI_some]
  by_cases c : wrc E b (q : Int) x.1 (eVk E a) = 0
  · simp only [if_pos c]
    by_cases d : wrc E a (p : Int) z.1 (eVk E b) = 0
    · simp only [if_pos d]
      have k1 := put_y (r := r) h (t := 15) (by unfold isTh; decide) hb hq hx ak8 e1 e2 c
      generalize hA : xu (xu hi 15 0 (nI (cup (dl E b) x).1)) 3 (cix E b (q : Int)) (nI (cup (dl E b) x).1) = hiA at k1
      generalize hB : xu (xu hl 15 1 (cup (dl E b) x).2) 4 (cix E b (q : Int)) (cup (dl E b) x).2 = hlA at k1
      have fA : ∀ a, a ∉ [3, 15] → hiA a = hi a := by
        intro a ha
        simp only [List.mem_cons, List.not_mem_nil, or_false, not_or] at ha
        rw [← hA, xu_ne _ _ _ ha.1, xu_ne _ _ _ ha.2]
      have fB : ∀ a, a ∉ [4, 15] → hlA a = hl a := by
        intro a ha
        simp only [List.mem_cons, List.not_mem_nil, or_false, not_or] at ha
        rw [← hB, xu_ne _ _ _ ha.1, xu_ne _ _ _ ha.2]
      have hCA : CC nb (updC C (cix E b (q : Int)) (cup (dl E b) x)).1 (updC C (cix E b (q : Int)) (cup (dl E b) x)).2 hiA hlA := by
        rw [← hA, ← hB]
        exact (hC.fr (xu_ne _ _ _ (by decide)) (xu_ne _ _ _ (by decide))).u _ _
      have hEA : EV nb nv vb E hiA := h.ne fA (by decide)
      have k2 := put_y (r := r) hEA (t := 16) (p := p) (y := eVk E b) (x := z) (hl := hlA) (by unfold isTh; decide) ha hp hz bk8 (by rw [fA 16 (by decide)]; exact e3) (by rw [fB 16 (by decide)]; exact e4) d
      have a12' : hiA 12 = hi 12 := fA 12 (by decide)
      refine ⟨xu (xu hiA 16 0 (nI (cup (dl E a) z).1)) 3 (cix E a (p : Int)) (nI (cup (dl E a) z).1), xu (xu hlA 16 1 (cup (dl E a) z).2) 4 (cix E a (p : Int)) (cup (dl E a) z).2, ?_, (hCA.fr (hi' := xu hiA 16 0 (nI (cup (dl E a) z).1)) (hl' := xu hlA 16 1 (cup (dl E a) z).2) (xu_ne _ _ _ (by decide)) (xu_ne _ _ _ (by decide))).u _ _, fun a ha => ?_, fun a ha => ?_⟩
      · rw [if_pos (xok_t (by omega) (by decide)), cl_nI (by omega), a12, k1, xbI_some, if_pos (xok_t (by omega) (by decide)), cl_nI (by omega), a12', b12, k2, xbI_some]
      · simp only [List.mem_cons, List.not_mem_nil, or_false, not_or] at ha
        rw [xu_ne _ _ _ ha.1, xu_ne _ _ _ ha.2.2, fA a (by simp; omega)]
      · simp only [List.mem_cons, List.not_mem_nil, or_false, not_or] at ha
        rw [xu_ne _ _ _ ha.1, xu_ne _ _ _ ha.2.2, fB a (by simp; omega)]
    · simp only [if_neg d]
      exact ⟨hi, hl, rfl, hC, fun _ _ => rfl, fun _ _ => rfl⟩
  · simp only [if_neg c]
    exact ⟨hi, hl, rfl, hC, fun _ _ => rfl, fun _ _ => rfl⟩
end STEP
