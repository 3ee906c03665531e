def xsu (sh : Nat → Nat × Nat) (n : Nat) (v : Nat × Nat) : Nat → Nat × Nat := fun a => if a = n then v else sh a
def xz {α : Type} (f : Nat → Nat → α) (n : Nat) (d : α) : Nat → Nat → α := fun a => if a = n then fun _ => d else f a
theorem xz_ne {α : Type} (f : Nat → Nat → α) {n a : Nat} (d : α) (h : a ≠ n) : xz f n d a = f a := by simp [xz, h]
theorem xz_self {α : Type} (f : Nat → Nat → α) (n : Nat) (d : α) : xz f n d n = fun _ => d := by simp [xz]
def xCls (ci : Nat) (C : String) : Prop := ∃ (T : u_T) (N : Nat) (ty0 : Nat → FieldType), vwCl[ci]? = some (C, T, N) ∧ (∀ t ∈ u_ws C T N, t ∈ xTB) ∧ (∀ k, k < N → parseFieldDescriptor (T k).2.2.1 = some (ty0 k)) ∧ N = xnf ci ∧ Cond.instantiable C N ∈ xTB ∧ Cond.initialized C ∈ xTB ∧ (∀ j, j < N → defaultValue (ty0 j) = match xft ci j with | 0 => .int 0 | 1 => .long 0 | _ => .null)
theorem xnew_addr {E : xE} {H : xHp} {qn : Nat} {x : va_E} {H1 : Heap} (hP : va_P E.1 vwCl (xws E H ++ [(qn, x)]) H1) (hD : va_D (xA E) (xws E H ++ [(qn, x)])) (hz : H1.size ≤ E.2.2.1 + H.1 + 1) : qn = E.2.2.1 + H.1 := by
  have hlen : (xws E H).length = H.1 := by simp [xws]
  have hn : (xws E H ++ [(qn, x)])[H.1]? = some (qn, x) := by rw [List.getElem?_append_right (by omega), hlen, Nat.sub_self]; rfl
  have h1 : qn < H1.size := (hP _ _ hn).lt
  have h2 : E.2.2.1 ≤ qn := hD.2 _ _ hn
  by_cases h3 : qn < E.2.2.1 + H.1
  · have hi : (xws E H ++ [(qn, x)])[qn - E.2.2.1]? = some (E.2.2.1 + (qn - E.2.2.1), xce E H (qn - E.2.2.1)) := by
      rw [List.getElem?_append_left (by omega)]
      exact xws_at (by omega)
    have := hD.1 _ _ _ _ hi hn (by simp only; omega)
    omega
  · omega
section XN
variable {w : xWt} {b : xBd} {z : xZ} {k q pc pc' a idx ci : Nat} {L : List (Option Value)} {S : List Value} {o : xOut} {n : Nat} {sh : Nat → Nat × Nat} {hi : Nat → Nat → Int32} {hl : Nat → Nat → Int64} {hr : Nat → Nat → Option Nat}
theorem x_new {C : String} (hd : decode w.2.1 pc = .ok (.new idx, 3)) (hcl : Cond.classLink w.1 idx C ∈ xTB) (hK : xCls ci C) (hk : k + 1 ≤ b.2.1) (hq : q + xnf ci ≤ b.2.2) (hn : n + 1 ≤ 1000000) (hp : pc + 3 = pc')
    (kk : xR w b z (k + 1) (q + xnf ci) pc' L (.ref n :: S) (n + 1, xsu sh n (ci + 5, xnf ci), xz hi n 0, xz hl n 0, xz hr n none) o) : xR w b z k q pc L S (n, sh, hi, hl, hr) o := by
  intro p l e R s m args below meth c E Q Hh locs ls hC hE hR hL
  subst hp
  obtain ⟨T, N, ty0, hc, hin, hty, rfl, hinst, hini, hdef⟩ := hK
  refine va_new (D := E.1) (cl := vwCl) (tys := xtys E) (ws := xws E (n, sh, hi, hl, hr)) (A := xA E) (H0 := s.heap) hC.1 hC.2.1 hC.2.2.2.2.1 hin ty0 hty hC.2.2.2.1 (hC.2.2.2.2.1 _ hcl) (hC.2.2.2.2.1 _ hinst) (hC.2.2.2.2.1 _ hini) hC.2.2.2.2.2.1.1 hR.1.1 xws_D hR.2.1 (fun x hx => by have h9 := hC.2.2.2.2.2.2.1; simp only [xA]; omega) hc
    (fs := (List.range (xnf ci)).map (fun j => match xft ci j with | 0 => .int 0 | 1 => .long 0 | _ => .null)) (fun j hj => by rw [hdef j hj]; simp [vp_V, hj]) (Nat.le_trans hk hC.2.2.2.2.2.2.2.2.2.2.1) (Nat.le_trans hq hC.2.2.2.2.2.2.2.2.2.2.2) hd (fun qn H1 hP1 hD1 hS1 => ?_)
  intro T2 hT2 X2
  have hz2 : H1.size ≤ E.2.2.1 + n + 1 := by
    have h8 := X2.heapSize
    have h9 : s.heap.size + k = E.2.2.1 + n := hR.2.2
    rw [hT2] at h8
    omega
  obtain rfl := xnew_addr (H := (n, sh, hi, hl, hr)) hP1 hD1 hz2
  have hps := xws_push (E := E) (H := (n, sh, hi, hl, hr)) (H' := (n + 1, xsu sh n (ci + 5, xnf ci), xz hi n 0, xz hl n 0, xz hr n none)) (x := .inr (ci, (List.range (xnf ci)).map (fun j => match xft ci j with | 0 => .int 0 | 1 => .long 0 | _ => .null))) rfl (by
      rw [xce_obj (H := (n + 1, xsu sh n (ci + 5, xnf ci), xz hi n 0, xz hl n 0, xz hr n none)) (ci := ci) (N := xnf ci) (by simp [xsu])]
      congr 2
      apply List.map_congr_left
      intro j _
      simp only [xfv, xz_self]
      split <;> simp_all [va_rf]) (fun x hx => by
      have hx : x < n := hx
      exact xce_congr (by simp [xsu, Nat.ne_of_lt hx]) (xz_ne _ _ (Nat.ne_of_lt hx)) (xz_ne _ _ (Nat.ne_of_lt hx)) (xz_ne _ _ (Nat.ne_of_lt hx)))
  rw [hps] at hP1
  have h9 : s.heap.size + k = E.2.2.1 + n := hR.2.2
  have h1 := kk p l e R s m args below meth c E Q H1 locs ls hC hE ⟨⟨hP1, hn⟩, hS1, by show s.heap.size + (k + 1) = E.2.2.1 + (n + 1); omega⟩ hL
  have e1 : ((.ref n :: S).map (xtr E)) = .ref (E.2.2.1 + n) :: S.map (xtr E) := by rw [List.map_cons, xtr_ref (by omega)]
  rw [e1] at h1
  exact h1 T2 hT2 X2
theorem x_newi {cn : Int32} {N : Nat} (hd : decode w.2.1 pc = .ok (.newarray .int, 2)) (hac : Cond.arrayClass .int ∈ xTB) (hn0 : ¬ cn < 0) (hN : cn.toNatClampNeg = N) (hby : N * componentBytes .int ≤ 536870912) (hk : k + 1 ≤ b.2.1) (hq : q + N ≤ b.2.2) (hn : n + 1 ≤ 1000000) (hp : pc + 2 = pc')
    (kk : xR w b z (k + 1) (q + N) pc' L (.ref n :: S) (n + 1, xsu sh n (0, N), xz hi n 0, xz hl n 0, xz hr n none) o) : xR w b z k q pc L (.int cn :: S) (n, sh, hi, hl, hr) o := by
  intro p l e R s m args below meth c E Q Hh locs ls hC hE hR hL
  subst hp
  refine va_newa (D := E.1) (cl := vwCl) (tys := xtys E) (ws := xws E (n, sh, hi, hl, hr)) (A := xA E) (H0 := s.heap) (atype := .int) (ty := .int) (a0 := (N, .inl (fun _ => 0))) hC.1 hC.2.1 (hC.2.2.2.2.1 _ hac) rfl hC.2.2.2.2.2.1.1 hR.1.1 xws_D hR.2.1 (fun x hx => by have h9 := hC.2.2.2.2.2.2.1; simp only [xA]; omega)
    (fun cA => rfl) hn0 hN hby (Nat.le_trans hk hC.2.2.2.2.2.2.2.2.2.2.1) (Nat.le_trans hq hC.2.2.2.2.2.2.2.2.2.2.2) hd (fun qn cA H1 hK1 hP1 hD1 hS1 => ?_)
  intro T2 hT2 X2
  have hcA : cA = E.2.1 0 := Option.some.inj (((hK1.2 5 (cA, .int) rfl).2 : s.vm.findClass _ = some cA).symm.trans ((hK1.2 0 (E.2.1 0, .int) rfl).2 : s.vm.findClass _ = some (E.2.1 0)))
  subst hcA
  have hz2 : H1.size ≤ E.2.2.1 + n + 1 := by
    have h8 := X2.heapSize
    have h9 : s.heap.size + k = E.2.2.1 + n := hR.2.2
    rw [hT2] at h8
    omega
  obtain rfl := xnew_addr (H := (n, sh, hi, hl, hr)) hP1 hD1 hz2
  have hps := xws_push (E := E) (H := (n, sh, hi, hl, hr)) (H' := (n + 1, xsu sh n (0, N), xz hi n 0, xz hl n 0, xz hr n none)) (x := .inl (E.2.1 0, N, .inl (fun _ => 0))) rfl (by
      simp [xce, xsu, xz]) (fun x hx => by
      have hx : x < n := hx
      exact xce_congr (by simp [xsu, Nat.ne_of_lt hx]) (xz_ne _ _ (Nat.ne_of_lt hx)) (xz_ne _ _ (Nat.ne_of_lt hx)) (xz_ne _ _ (Nat.ne_of_lt hx)))
  rw [hps] at hP1
  have h9 : s.heap.size + k = E.2.2.1 + n := hR.2.2
  have h1 := kk p l e R s m args below meth c E Q H1 locs ls hC hE ⟨⟨hP1, hn⟩, hS1, by show s.heap.size + (k + 1) = E.2.2.1 + (n + 1); omega⟩ hL
  have e1 : ((.ref n :: S).map (xtr E)) = .ref (E.2.2.1 + n) :: S.map (xtr E) := by rw [List.map_cons, xtr_ref (by omega)]
  rw [e1] at h1
  exact h1 T2 hT2 X2
theorem x_newl {cn : Int32} {N : Nat} (hd : decode w.2.1 pc = .ok (.newarray .long, 2)) (hac : Cond.arrayClass .long ∈ xTB) (hn0 : ¬ cn < 0) (hN : cn.toNatClampNeg = N) (hby : N * componentBytes .long ≤ 536870912) (hk : k + 1 ≤ b.2.1) (hq : q + N ≤ b.2.2) (hn : n + 1 ≤ 1000000) (hp : pc + 2 = pc')
    (kk : xR w b z (k + 1) (q + N) pc' L (.ref n :: S) (n + 1, xsu sh n (1, N), xz hi n 0, xz hl n 0, xz hr n none) o) : xR w b z k q pc L (.int cn :: S) (n, sh, hi, hl, hr) o := by
  intro p l e R s m args below meth c E Q Hh locs ls hC hE hR hL
  subst hp
  refine va_newa (D := E.1) (cl := vwCl) (tys := xtys E) (ws := xws E (n, sh, hi, hl, hr)) (A := xA E) (H0 := s.heap) (atype := .long) (ty := .long) (a0 := (N, .inr (.inl (fun _ => 0)))) hC.1 hC.2.1 (hC.2.2.2.2.1 _ hac) rfl hC.2.2.2.2.2.1.1 hR.1.1 xws_D hR.2.1 (fun x hx => by have h9 := hC.2.2.2.2.2.2.1; simp only [xA]; omega)
    (fun cA => rfl) hn0 hN hby (Nat.le_trans hk hC.2.2.2.2.2.2.2.2.2.2.1) (Nat.le_trans hq hC.2.2.2.2.2.2.2.2.2.2.2) hd (fun qn cA H1 hK1 hP1 hD1 hS1 => ?_)
  intro T2 hT2 X2
  have hcA : cA = E.2.1 1 := Option.some.inj (((hK1.2 5 (cA, .long) rfl).2 : s.vm.findClass _ = some cA).symm.trans ((hK1.2 1 (E.2.1 1, .long) rfl).2 : s.vm.findClass _ = some (E.2.1 1)))
  subst hcA
  have hz2 : H1.size ≤ E.2.2.1 + n + 1 := by
    have h8 := X2.heapSize
    have h9 : s.heap.size + k = E.2.2.1 + n := hR.2.2
    rw [hT2] at h8
    omega
  obtain rfl := xnew_addr (H := (n, sh, hi, hl, hr)) hP1 hD1 hz2
  have hps := xws_push (E := E) (H := (n, sh, hi, hl, hr)) (H' := (n + 1, xsu sh n (1, N), xz hi n 0, xz hl n 0, xz hr n none)) (x := .inl (E.2.1 1, N, .inr (.inl (fun _ => 0)))) rfl (by
      simp [xce, xsu, xz]) (fun x hx => by
      have hx : x < n := hx
      exact xce_congr (by simp [xsu, Nat.ne_of_lt hx]) (xz_ne _ _ (Nat.ne_of_lt hx)) (xz_ne _ _ (Nat.ne_of_lt hx)) (xz_ne _ _ (Nat.ne_of_lt hx)))
  rw [hps] at hP1
  have h9 : s.heap.size + k = E.2.2.1 + n := hR.2.2
  have h1 := kk p l e R s m args below meth c E Q H1 locs ls hC hE ⟨⟨hP1, hn⟩, hS1, by show s.heap.size + (k + 1) = E.2.2.1 + (n + 1); omega⟩ hL
  have e1 : ((.ref n :: S).map (xtr E)) = .ref (E.2.2.1 + n) :: S.map (xtr E) := by rw [List.map_cons, xtr_ref (by omega)]
  rw [e1] at h1
  exact h1 T2 hT2 X2
theorem x_newb {cn : Int32} {N : Nat} (hd : decode w.2.1 pc = .ok (.newarray .byte, 2)) (hac : Cond.arrayClass .byte ∈ xTB) (hn0 : ¬ cn < 0) (hN : cn.toNatClampNeg = N) (hby : N * componentBytes .byte ≤ 536870912) (hk : k + 1 ≤ b.2.1) (hq : q + N ≤ b.2.2) (hn : n + 1 ≤ 1000000) (hp : pc + 2 = pc')
    (kk : xR w b z (k + 1) (q + N) pc' L (.ref n :: S) (n + 1, xsu sh n (2, N), xz hi n 0, xz hl n 0, xz hr n none) o) : xR w b z k q pc L (.int cn :: S) (n, sh, hi, hl, hr) o := by
  intro p l e R s m args below meth c E Q Hh locs ls hC hE hR hL
  subst hp
  refine va_newa (D := E.1) (cl := vwCl) (tys := xtys E) (ws := xws E (n, sh, hi, hl, hr)) (A := xA E) (H0 := s.heap) (atype := .byte) (ty := .byte) (a0 := (N, .inl (fun _ => 0))) hC.1 hC.2.1 (hC.2.2.2.2.1 _ hac) rfl hC.2.2.2.2.2.1.1 hR.1.1 xws_D hR.2.1 (fun x hx => by have h9 := hC.2.2.2.2.2.2.1; simp only [xA]; omega)
    (fun cA => rfl) hn0 hN hby (Nat.le_trans hk hC.2.2.2.2.2.2.2.2.2.2.1) (Nat.le_trans hq hC.2.2.2.2.2.2.2.2.2.2.2) hd (fun qn cA H1 hK1 hP1 hD1 hS1 => ?_)
  intro T2 hT2 X2
  have hcA : cA = E.2.1 2 := Option.some.inj (((hK1.2 5 (cA, .byte) rfl).2 : s.vm.findClass _ = some cA).symm.trans ((hK1.2 2 (E.2.1 2, .byte) rfl).2 : s.vm.findClass _ = some (E.2.1 2)))
  subst hcA
  have hz2 : H1.size ≤ E.2.2.1 + n + 1 := by
    have h8 := X2.heapSize
    have h9 : s.heap.size + k = E.2.2.1 + n := hR.2.2
    rw [hT2] at h8
    omega
  obtain rfl := xnew_addr (H := (n, sh, hi, hl, hr)) hP1 hD1 hz2
  have hps := xws_push (E := E) (H := (n, sh, hi, hl, hr)) (H' := (n + 1, xsu sh n (2, N), xz hi n 0, xz hl n 0, xz hr n none)) (x := .inl (E.2.1 2, N, .inl (fun _ => 0))) rfl (by
      simp [xce, xsu, xz]) (fun x hx => by
      have hx : x < n := hx
      exact xce_congr (by simp [xsu, Nat.ne_of_lt hx]) (xz_ne _ _ (Nat.ne_of_lt hx)) (xz_ne _ _ (Nat.ne_of_lt hx)) (xz_ne _ _ (Nat.ne_of_lt hx)))
  rw [hps] at hP1
  have h9 : s.heap.size + k = E.2.2.1 + n := hR.2.2
  have h1 := kk p l e R s m args below meth c E Q H1 locs ls hC hE ⟨⟨hP1, hn⟩, hS1, by show s.heap.size + (k + 1) = E.2.2.1 + (n + 1); omega⟩ hL
  have e1 : ((.ref n :: S).map (xtr E)) = .ref (E.2.2.1 + n) :: S.map (xtr E) := by rw [List.map_cons, xtr_ref (by omega)]
  rw [e1] at h1
  exact h1 T2 hT2 X2
theorem x_newq3 {cn : Int32} {N : Nat} (hd : decode w.2.1 pc = .ok (.anewarray idx, 3)) (hcl : Cond.classLink w.1 idx RX2 ∈ xTB) (hn0 : ¬ cn < 0) (hN : cn.toNatClampNeg = N) (hby : N * 4 ≤ 536870912) (hk : k + 1 ≤ b.2.1) (hq : q + N ≤ b.2.2) (hn : n + 1 ≤ 1000000) (hp : pc + 3 = pc')
    (kk : xR w b z (k + 1) (q + N) pc' L (.ref n :: S) (n + 1, xsu sh n (3, N), xz hi n 0, xz hl n 0, xz hr n none) o) : xR w b z k q pc L (.int cn :: S) (n, sh, hi, hl, hr) o := by
  intro p l e R s m args below meth c E Q Hh locs ls hC hE hR hL
  subst hp
  refine va_newq (D := E.1) (cl := vwCl) (tys := xtys E) (ws := xws E (n, sh, hi, hl, hr)) (A := xA E) (H0 := s.heap) (C := RX2) hC.1 hC.2.1 hC.2.2.2.1 (hC.2.2.2.2.1 _ hcl) hC.2.2.2.2.2.1.2.2.1 hC.2.2.2.2.2.1.1 hR.1.1 xws_D hR.2.1 (fun x hx => by have h9 := hC.2.2.2.2.2.2.1; simp only [xA]; omega)
    hn0 hN hby (Nat.le_trans hk hC.2.2.2.2.2.2.2.2.2.2.1) (Nat.le_trans hq hC.2.2.2.2.2.2.2.2.2.2.2) hd (fun qn cA H1 hK1 hP1 hD1 hS1 => ?_)
  intro T2 hT2 X2
  have hcA : cA = E.2.1 3 := by
    obtain ⟨_, _, _, _, _, f1⟩ := ((hK1.2 5 (cA, .object RX2) rfl).2 : va_RA s cA (.object RX2))
    obtain ⟨_, _, _, _, _, f2⟩ := ((hK1.2 3 (E.2.1 3, .object RX2) rfl).2 : va_RA s (E.2.1 3) (.object RX2))
    exact Option.some.inj (f1.symm.trans f2)
  subst hcA
  have hz2 : H1.size ≤ E.2.2.1 + n + 1 := by
    have h8 := X2.heapSize
    have h9 : s.heap.size + k = E.2.2.1 + n := hR.2.2
    rw [hT2] at h8
    omega
  obtain rfl := xnew_addr (H := (n, sh, hi, hl, hr)) hP1 hD1 hz2
  have hps := xws_push (E := E) (H := (n, sh, hi, hl, hr)) (H' := (n + 1, xsu sh n (3, N), xz hi n 0, xz hl n 0, xz hr n none)) (x := .inl (E.2.1 3, N, .inr (.inr (.inr (.inr (fun _ => none)))))) rfl (by
      simp [xce, xsu, xz]) (fun x hx => by
      have hx : x < n := hx
      exact xce_congr (by simp [xsu, Nat.ne_of_lt hx]) (xz_ne _ _ (Nat.ne_of_lt hx)) (xz_ne _ _ (Nat.ne_of_lt hx)) (xz_ne _ _ (Nat.ne_of_lt hx)))
  rw [hps] at hP1
  have h9 : s.heap.size + k = E.2.2.1 + n := hR.2.2
  have h1 := kk p l e R s m args below meth c E Q H1 locs ls hC hE ⟨⟨hP1, hn⟩, hS1, by show s.heap.size + (k + 1) = E.2.2.1 + (n + 1); omega⟩ hL
  have e1 : ((.ref n :: S).map (xtr E)) = .ref (E.2.2.1 + n) :: S.map (xtr E) := by rw [List.map_cons, xtr_ref (by omega)]
  rw [e1] at h1
  exact h1 T2 hT2 X2
theorem x_newq4 {cn : Int32} {N : Nat} (hd : decode w.2.1 pc = .ok (.anewarray idx, 3)) (hcl : Cond.classLink w.1 idx RX6 ∈ xTB) (hn0 : ¬ cn < 0) (hN : cn.toNatClampNeg = N) (hby : N * 4 ≤ 536870912) (hk : k + 1 ≤ b.2.1) (hq : q + N ≤ b.2.2) (hn : n + 1 ≤ 1000000) (hp : pc + 3 = pc')
    (kk : xR w b z (k + 1) (q + N) pc' L (.ref n :: S) (n + 1, xsu sh n (4, N), xz hi n 0, xz hl n 0, xz hr n none) o) : xR w b z k q pc L (.int cn :: S) (n, sh, hi, hl, hr) o := by
  intro p l e R s m args below meth c E Q Hh locs ls hC hE hR hL
  subst hp
  refine va_newq (D := E.1) (cl := vwCl) (tys := xtys E) (ws := xws E (n, sh, hi, hl, hr)) (A := xA E) (H0 := s.heap) (C := RX6) hC.1 hC.2.1 hC.2.2.2.1 (hC.2.2.2.2.1 _ hcl) hC.2.2.2.2.2.1.2.2.2.1 hC.2.2.2.2.2.1.1 hR.1.1 xws_D hR.2.1 (fun x hx => by have h9 := hC.2.2.2.2.2.2.1; simp only [xA]; omega)
    hn0 hN hby (Nat.le_trans hk hC.2.2.2.2.2.2.2.2.2.2.1) (Nat.le_trans hq hC.2.2.2.2.2.2.2.2.2.2.2) hd (fun qn cA H1 hK1 hP1 hD1 hS1 => ?_)
  intro T2 hT2 X2
  have hcA : cA = E.2.1 4 := by
    obtain ⟨_, _, _, _, _, f1⟩ := ((hK1.2 5 (cA, .object RX6) rfl).2 : va_RA s cA (.object RX6))
    obtain ⟨_, _, _, _, _, f2⟩ := ((hK1.2 4 (E.2.1 4, .object RX6) rfl).2 : va_RA s (E.2.1 4) (.object RX6))
    exact Option.some.inj (f1.symm.trans f2)
  subst hcA
  have hz2 : H1.size ≤ E.2.2.1 + n + 1 := by
    have h8 := X2.heapSize
    have h9 : s.heap.size + k = E.2.2.1 + n := hR.2.2
    rw [hT2] at h8
    omega
  obtain rfl := xnew_addr (H := (n, sh, hi, hl, hr)) hP1 hD1 hz2
  have hps := xws_push (E := E) (H := (n, sh, hi, hl, hr)) (H' := (n + 1, xsu sh n (4, N), xz hi n 0, xz hl n 0, xz hr n none)) (x := .inl (E.2.1 4, N, .inr (.inr (.inr (.inr (fun _ => none)))))) rfl (by
      simp [xce, xsu, xz]) (fun x hx => by
      have hx : x < n := hx
      exact xce_congr (by simp [xsu, Nat.ne_of_lt hx]) (xz_ne _ _ (Nat.ne_of_lt hx)) (xz_ne _ _ (Nat.ne_of_lt hx)) (xz_ne _ _ (Nat.ne_of_lt hx)))
  rw [hps] at hP1
  have h9 : s.heap.size + k = E.2.2.1 + n := hR.2.2
  have h1 := kk p l e R s m args below meth c E Q H1 locs ls hC hE ⟨⟨hP1, hn⟩, hS1, by show s.heap.size + (k + 1) = E.2.2.1 + (n + 1); omega⟩ hL
  have e1 : ((.ref n :: S).map (xtr E)) = .ref (E.2.2.1 + n) :: S.map (xtr E) := by rw [List.map_cons, xtr_ref (by omega)]
  rw [e1] at h1
  exact h1 T2 hT2 X2
theorem xcat_sum (E : xE) (S : List Value) : ((S.map (xtr E)).map fun v => v.category).sum = (S.map fun v => v.category).sum := by
  rw [List.map_map]
  exact congrArg List.sum (List.map_congr_left (fun v _ => xtr_cat E v))
theorem x_oinit {H : xHp} (hd : decode w.2.1 pc = .ok (.invokespecial idx, 3)) (hlk : Cond.methodLink w.1 idx objectInit ∈ xTB) (hi1 : Cond.instanceMethod objectInit ∈ xTB) (hc1 : Cond.code objectInit ⟨#[0xb1]⟩ 1 none ∈ xTB) (hS : (S.map fun v => v.category).sum ≤ 8) (hb1 : 1 ≤ b.1) (hp : pc + 3 = pc') (kk : xR w b z k q pc' L S H o) : xR w b z k q pc L (.ref a :: S) H o := by
  intro p l e R s m args below meth c E Q Hh locs ls hC hE hR hL
  subst hp
  have hfr := hC.2.2.2.2.2.2.2.2.1
  have hlo := hC.2.2.2.2.2.2.2.2.2.1
  refine W.objInit hC.1 hC.2.1 hC.2.2.2.1 (hC.2.2.2.2.1 _ hlk) (hC.2.2.2.2.1 _ hi1) (hC.2.2.2.2.1 _ hc1) rfl (by rw [hC.2.2.1]; exact hL.2.1) (a := xad E a) rfl hd (by omega) ?_ (kk p l e R s m args below meth c E Q Hh locs ls hC hE hR hL)
  show 2 * 0 + ((S.map (xtr E)).map fun v => v.category).sum + 12 ≤ R.locals
  rw [xcat_sum]
  omega
end XN
