section XB
variable {w : xWt} {b : xBd} {z : xZ} {k q pc pc' tgt : Nat} {L L' : List (Option Value)} {S : List Value} {H H' : xHp} {o : xOut}
theorem x_if_eq {x : Int32} {off : Int} (hd : decode w.2.1 pc = .ok (.ifCond .eq off, 3)) (ht : (pc : Int) + off = (tgt : Int)) (hp : pc + 3 = pc') (kt : x = 0 → xR w b z k q tgt L S H o) (kf : ¬ x = 0 → xR w b z k q pc' L S H o) : xR w b z k q pc L (.int x :: S) H o := by
  intro p l e R s m args below meth c E Q Hh locs ls hC hE hR hL
  subst hp
  exact lv_if_eq hC.1 hC.2.1 hd ht (fun h => kt h p l e R s m args below meth c E Q Hh locs ls hC hE hR hL) (fun h => kf (h) p l e R s m args below meth c E Q Hh locs ls hC hE hR hL)
theorem x_if_ne {x : Int32} {off : Int} (hd : decode w.2.1 pc = .ok (.ifCond .ne off, 3)) (ht : (pc : Int) + off = (tgt : Int)) (hp : pc + 3 = pc') (kt : ¬ x = 0 → xR w b z k q tgt L S H o) (kf : x = 0 → xR w b z k q pc' L S H o) : xR w b z k q pc L (.int x :: S) H o := by
  intro p l e R s m args below meth c E Q Hh locs ls hC hE hR hL
  subst hp
  exact lv_if_ne hC.1 hC.2.1 hd ht (fun h => kt h p l e R s m args below meth c E Q Hh locs ls hC hE hR hL) (fun h => kf (h) p l e R s m args below meth c E Q Hh locs ls hC hE hR hL)
theorem x_if_lt {x : Int32} {off : Int} (hd : decode w.2.1 pc = .ok (.ifCond .lt off, 3)) (ht : (pc : Int) + off = (tgt : Int)) (hp : pc + 3 = pc') (kt : x < 0 → xR w b z k q tgt L S H o) (kf : ¬ x < 0 → xR w b z k q pc' L S H o) : xR w b z k q pc L (.int x :: S) H o := by
  intro p l e R s m args below meth c E Q Hh locs ls hC hE hR hL
  subst hp
  exact lv_if_lt hC.1 hC.2.1 hd ht (fun h => kt h p l e R s m args below meth c E Q Hh locs ls hC hE hR hL) (fun h => kf (h) p l e R s m args below meth c E Q Hh locs ls hC hE hR hL)
theorem x_if_ge {x : Int32} {off : Int} (hd : decode w.2.1 pc = .ok (.ifCond .ge off, 3)) (ht : (pc : Int) + off = (tgt : Int)) (hp : pc + 3 = pc') (kt : 0 ≤ x → xR w b z k q tgt L S H o) (kf : ¬ 0 ≤ x → xR w b z k q pc' L S H o) : xR w b z k q pc L (.int x :: S) H o := by
  intro p l e R s m args below meth c E Q Hh locs ls hC hE hR hL
  subst hp
  exact lv_if_ge hC.1 hC.2.1 hd ht (fun h => kt h p l e R s m args below meth c E Q Hh locs ls hC hE hR hL) (fun h => kf (h) p l e R s m args below meth c E Q Hh locs ls hC hE hR hL)
theorem x_if_gt {x : Int32} {off : Int} (hd : decode w.2.1 pc = .ok (.ifCond .gt off, 3)) (ht : (pc : Int) + off = (tgt : Int)) (hp : pc + 3 = pc') (kt : 0 < x → xR w b z k q tgt L S H o) (kf : ¬ 0 < x → xR w b z k q pc' L S H o) : xR w b z k q pc L (.int x :: S) H o := by
  intro p l e R s m args below meth c E Q Hh locs ls hC hE hR hL
  subst hp
  exact lv_if_gt hC.1 hC.2.1 hd ht (fun h => kt h p l e R s m args below meth c E Q Hh locs ls hC hE hR hL) (fun h => kf (h) p l e R s m args below meth c E Q Hh locs ls hC hE hR hL)
theorem x_if_le {x : Int32} {off : Int} (hd : decode w.2.1 pc = .ok (.ifCond .le off, 3)) (ht : (pc : Int) + off = (tgt : Int)) (hp : pc + 3 = pc') (kt : x ≤ 0 → xR w b z k q tgt L S H o) (kf : ¬ x ≤ 0 → xR w b z k q pc' L S H o) : xR w b z k q pc L (.int x :: S) H o := by
  intro p l e R s m args below meth c E Q Hh locs ls hC hE hR hL
  subst hp
  exact lv_if_le hC.1 hC.2.1 hd ht (fun h => kt h p l e R s m args below meth c E Q Hh locs ls hC hE hR hL) (fun h => kf (h) p l e R s m args below meth c E Q Hh locs ls hC hE hR hL)
theorem x_icmp_eq {x y : Int32} {off : Int} (hd : decode w.2.1 pc = .ok (.if_icmp .eq off, 3)) (ht : (pc : Int) + off = (tgt : Int)) (hp : pc + 3 = pc') (kt : x = y → xR w b z k q tgt L S H o) (kf : ¬ x = y → xR w b z k q pc' L S H o) : xR w b z k q pc L (.int y :: .int x :: S) H o := by
  intro p l e R s m args below meth c E Q Hh locs ls hC hE hR hL
  subst hp
  exact lv_icmp_eq hC.1 hC.2.1 hd ht (fun h => kt h p l e R s m args below meth c E Q Hh locs ls hC hE hR hL) (fun h => kf (h) p l e R s m args below meth c E Q Hh locs ls hC hE hR hL)
theorem x_icmp_ne {x y : Int32} {off : Int} (hd : decode w.2.1 pc = .ok (.if_icmp .ne off, 3)) (ht : (pc : Int) + off = (tgt : Int)) (hp : pc + 3 = pc') (kt : ¬ x = y → xR w b z k q tgt L S H o) (kf : x = y → xR w b z k q pc' L S H o) : xR w b z k q pc L (.int y :: .int x :: S) H o := by
  intro p l e R s m args below meth c E Q Hh locs ls hC hE hR hL
  subst hp
  exact lv_icmp_ne hC.1 hC.2.1 hd ht (fun h => kt h p l e R s m args below meth c E Q Hh locs ls hC hE hR hL) (fun h => kf (h) p l e R s m args below meth c E Q Hh locs ls hC hE hR hL)
theorem x_icmp_lt {x y : Int32} {off : Int} (hd : decode w.2.1 pc = .ok (.if_icmp .lt off, 3)) (ht : (pc : Int) + off = (tgt : Int)) (hp : pc + 3 = pc') (kt : x < y → xR w b z k q tgt L S H o) (kf : ¬ x < y → xR w b z k q pc' L S H o) : xR w b z k q pc L (.int y :: .int x :: S) H o := by
  intro p l e R s m args below meth c E Q Hh locs ls hC hE hR hL
  subst hp
  exact lv_icmp_lt hC.1 hC.2.1 hd ht (fun h => kt h p l e R s m args below meth c E Q Hh locs ls hC hE hR hL) (fun h => kf (h) p l e R s m args below meth c E Q Hh locs ls hC hE hR hL)
theorem x_icmp_ge {x y : Int32} {off : Int} (hd : decode w.2.1 pc = .ok (.if_icmp .ge off, 3)) (ht : (pc : Int) + off = (tgt : Int)) (hp : pc + 3 = pc') (kt : y ≤ x → xR w b z k q tgt L S H o) (kf : ¬ y ≤ x → xR w b z k q pc' L S H o) : xR w b z k q pc L (.int y :: .int x :: S) H o := by
  intro p l e R s m args below meth c E Q Hh locs ls hC hE hR hL
  subst hp
  exact lv_icmp_ge hC.1 hC.2.1 hd ht (fun h => kt h p l e R s m args below meth c E Q Hh locs ls hC hE hR hL) (fun h => kf (h) p l e R s m args below meth c E Q Hh locs ls hC hE hR hL)
theorem x_icmp_gt {x y : Int32} {off : Int} (hd : decode w.2.1 pc = .ok (.if_icmp .gt off, 3)) (ht : (pc : Int) + off = (tgt : Int)) (hp : pc + 3 = pc') (kt : y < x → xR w b z k q tgt L S H o) (kf : ¬ y < x → xR w b z k q pc' L S H o) : xR w b z k q pc L (.int y :: .int x :: S) H o := by
  intro p l e R s m args below meth c E Q Hh locs ls hC hE hR hL
  subst hp
  exact lv_icmp_gt hC.1 hC.2.1 hd ht (fun h => kt h p l e R s m args below meth c E Q Hh locs ls hC hE hR hL) (fun h => kf (h) p l e R s m args below meth c E Q Hh locs ls hC hE hR hL)
theorem x_icmp_le {x y : Int32} {off : Int} (hd : decode w.2.1 pc = .ok (.if_icmp .le off, 3)) (ht : (pc : Int) + off = (tgt : Int)) (hp : pc + 3 = pc') (kt : x ≤ y → xR w b z k q tgt L S H o) (kf : ¬ x ≤ y → xR w b z k q pc' L S H o) : xR w b z k q pc L (.int y :: .int x :: S) H o := by
  intro p l e R s m args below meth c E Q Hh locs ls hC hE hR hL
  subst hp
  exact lv_icmp_le hC.1 hC.2.1 hd ht (fun h => kt h p l e R s m args below meth c E Q Hh locs ls hC hE hR hL) (fun h => kf (h) p l e R s m args below meth c E Q Hh locs ls hC hE hR hL)
theorem x_goto {off : Int} (hd : decode w.2.1 pc = .ok (.goto off, 3)) (ht : (pc : Int) + off = (tgt : Int)) (kk : xR w b z k q tgt L S H o) : xR w b z k q pc L S H o := by
  intro p l e R s m args below meth c E Q Hh locs ls hC hE hR hL
  exact lv_goto hC.1 hC.2.1 hd ht (kk p l e R s m args below meth c E Q Hh locs ls hC hE hR hL)
theorem x_tabIn {dflt lo hi : Int} {offs : Array Int} {len : Nat} {x : Int32} {off : Int} (hd : decode w.2.1 pc = .ok (.tableswitch dflt lo hi offs, len)) (h1 : ¬ x.toInt < lo) (h2 : ¬ hi < x.toInt) (ho : offs[(x.toInt - lo).toNat]? = some off) (ht : (pc : Int) + off = (tgt : Int)) (kk : xR w b z k q tgt L S H o) : xR w b z k q pc L (.int x :: S) H o := by
  intro p l e R s m args below meth c E Q Hh locs ls hC hE hR hL
  exact lv_tableIn hC.1 hC.2.1 hd h1 h2 ho ht (kk p l e R s m args below meth c E Q Hh locs ls hC hE hR hL)
theorem x_tabOut {dflt lo hi : Int} {offs : Array Int} {len : Nat} {x : Int32} (hd : decode w.2.1 pc = .ok (.tableswitch dflt lo hi offs, len)) (h : x.toInt < lo ∨ hi < x.toInt) (ht : (pc : Int) + dflt = (tgt : Int)) (kk : xR w b z k q tgt L S H o) : xR w b z k q pc L (.int x :: S) H o := by
  intro p l e R s m args below meth c E Q Hh locs ls hC hE hR hL
  exact lv_tableOut hC.1 hC.2.1 hd h ht (kk p l e R s m args below meth c E Q Hh locs ls hC hE hR hL)
theorem x_ldc {idx : Nat} {v : Int32} (hd : decode w.2.1 pc = .ok (.ldc idx, 2)) (hc : Cond.constant w.1 idx v ∈ xTB) (hp : pc + 2 = pc') (kk : xR w b z k q pc' L (.int v :: S) H o) : xR w b z k q pc L S H o := by
  intro p l e R s m args below meth c E Q Hh locs ls hC hE hR hL
  subst hp
  exact lv_ldc hC.1 hC.2.1 hC.2.2.2.1 (hC.2.2.2.2.1 _ hc) hd (kk p l e R s m args below meth c E Q Hh locs ls hC hE hR hL)
theorem x_ldc_w {idx : Nat} {v : Int32} (hd : decode w.2.1 pc = .ok (.ldc_w idx, 3)) (hc : Cond.constant w.1 idx v ∈ xTB) (hp : pc + 3 = pc') (kk : xR w b z k q pc' L (.int v :: S) H o) : xR w b z k q pc L S H o := by
  intro p l e R s m args below meth c E Q Hh locs ls hC hE hR hL
  subst hp
  have hk := (kk p l e R s m args below meth c E Q Hh locs ls hC hE hR hL)
  intro T hT X
  obtain ⟨t, a1, b1⟩ := hk T hT X
  exact ⟨t, va_ldcwI X hC.1 hC.2.2.2.1 (hC.2.2.2.2.1 _ hc) rfl (by rw [hC.2.1]; exact hd) t a1, b1⟩
theorem x_ldc2 {idx : Nat} {v : Int64} (hd : decode w.2.1 pc = .ok (.ldc2_w idx, 3)) (hc : Cond.constantLong w.1 idx v ∈ xTB) (hp : pc + 3 = pc') (kk : xR w b z k q pc' L (.long v :: S) H o) : xR w b z k q pc L S H o := by
  intro p l e R s m args below meth c E Q Hh locs ls hC hE hR hL
  subst hp
  exact lv_ldc2 hC.1 hC.2.1 hC.2.2.2.1 (hC.2.2.2.2.1 _ hc) hd (kk p l e R s m args below meth c E Q Hh locs ls hC hE hR hL)
theorem x_vret (hd : decode w.2.1 pc = .ok (.return_, 1)) (hw : w.2.2.2.2 = 0) (hk : k = b.2.1) (hq : q ≤ b.2.2) (ho : o = (none, H)) : xR w b z k q pc L [] H o := by
  intro p l e R s m args below meth c E Q Hh locs ls hC hE hR hL
  subst ho; subst hk
  exact hE q pc ls Hh locs hq hR (by simp only [xrt, hw]; exact hd)
theorem x_iret {x : Int32} (hd : decode w.2.1 pc = .ok (.ireturn, 1)) (hw : w.2.2.2.2 = 1) (hk : k = b.2.1) (hq : q ≤ b.2.2) (ho : o = (some (.int x), H)) : xR w b z k q pc L [.int x] H o := by
  intro p l e R s m args below meth c E Q Hh locs ls hC hE hR hL
  subst ho; subst hk
  exact hE q pc ls Hh locs hq hR (by simp only [xrt, hw]; exact hd)
theorem x_lret {x : Int64} (hd : decode w.2.1 pc = .ok (.lreturn, 1)) (hw : w.2.2.2.2 = 2) (hk : k = b.2.1) (hq : q ≤ b.2.2) (ho : o = (some (.long x), H)) : xR w b z k q pc L [.long x] H o := by
  intro p l e R s m args below meth c E Q Hh locs ls hC hE hR hL
  subst ho; subst hk
  exact hE q pc ls Hh locs hq hR (by simp only [xrt, hw]; exact hd)
theorem x_zret {x : Int32} (hd : decode w.2.1 pc = .ok (.ireturn, 1)) (hw : w.2.2.2.2 = 3) (hx : x = 0 ∨ x = 1) (hk : k = b.2.1) (hq : q ≤ b.2.2) (ho : o = (some (.int x), H)) : xR w b z k q pc L [.int x] H o := by
  intro p l e R s m args below meth c E Q Hh locs ls hC hE hR hL
  subst ho; subst hk
  exact hE q pc ls Hh locs hq hR (by simp only [xrt, hw]; exact ⟨hd, hx⟩)
end XB
/-! fields -/
def xnf (c : Nat) : Nat := (xftT.getD c []).length
def xFld (own : String) (idx ci j : Nat) (ty : FieldType) (fin : Bool) : Prop := ∃ (C : String) (T : u_T) (N : Nat) (ty0 : Nat → FieldType), vwCl[ci]? = some (C, T, N) ∧ (∀ t ∈ u_ws C T N, t ∈ xTB) ∧ (∀ k, k < N → parseFieldDescriptor (T k).2.2.1 = some (ty0 k)) ∧ (∀ a, a < N → ∀ b, b < N → a ≠ b → (T a).2.1 ≠ (T b).2.1) ∧ j < N ∧ N = xnf ci ∧ ty0 j = ty ∧ (T j).2.2.2 = fin ∧ (T j).1 = C ∧ Cond.fieldLink own idx C (T j).2.1 (T j).2.2.1 ∈ xTB
theorem xu_ne {α : Type} (f : Nat → Nat → α) {a x : Nat} (j : Nat) (v : α) (h : x ≠ a) : xu f a j v x = f x := by
  funext i
  simp [xu, h]
theorem xu_self {α : Type} (f : Nat → Nat → α) (a j : Nat) (v : α) : xu f a j v a = fun i => if i = j then v else f a i := by
  funext i
  simp [xu]
theorem xce_congr {E : xE} {H H' : xHp} {a : Nat} (h1 : H'.2.1 a = H.2.1 a) (h2 : H'.2.2.1 a = H.2.2.1 a) (h3 : H'.2.2.2.1 a = H.2.2.2.1 a) (h4 : H'.2.2.2.2 a = H.2.2.2.2 a) : xce E H' a = xce E H a := by
  simp only [xce, xfv, h1, h2, h3, h4]
theorem xce_obj {E : xE} {H : xHp} {a ci N : Nat} (h : H.2.1 a = (ci + 5, N)) : xce E H a = .inr (ci, (List.range N).map (fun i => xfv E H (xft ci i) a i)) := by
  simp [xce, h]
theorem xfs_at {E : xE} {H : xHp} {a ci N j : Nat} (h : j < N) : ((List.range N).map (fun i => xfv E H (xft ci i) a i))[j]? = some (xfv E H (xft ci j) a j) := by simp [h]
theorem xfs_set {E : xE} {H H' : xHp} {a ci N j : Nat} {v : Value} (hv : xfv E H' (xft ci j) a j = v) (ho : ∀ i, i ≠ j → xfv E H' (xft ci i) a i = xfv E H (xft ci i) a i) : ((List.range N).map (fun i => xfv E H (xft ci i) a i)).set j v = (List.range N).map (fun i => xfv E H' (xft ci i) a i) := by
  apply List.ext_getElem?
  intro i
  by_cases hi : i = j
  · subst hi
    by_cases hl : i < N
    · rw [List.getElem?_set_self (by simpa using hl)]
      simp [hl, hv]
    · rw [List.getElem?_eq_none (by simp; omega), List.getElem?_eq_none (by simp; omega)]
  · rw [List.getElem?_set_ne (Ne.symm hi)]
    by_cases hl : i < N
    · simp [hl, ho i hi]
    · rw [List.getElem?_eq_none (by simp; omega), List.getElem?_eq_none (by simp; omega)]
section XF
variable {w : xWt} {b : xBd} {z : xZ} {k q pc pc' a idx ci j : Nat} {L : List (Option Value)} {S : List Value} {o : xOut} {n : Nat} {sh : Nat → Nat × Nat} {hi : Nat → Nat → Int32} {hl : Nat → Nat → Int64} {hr : Nat → Nat → Option Nat} {ty : FieldType} {fin : Bool}
theorem x_getv {ft : Nat} (hd : decode w.2.1 pc = .ok (.getfield idx, 3)) (hf : xFld w.1 idx ci j ty fin) (ha : a < n) (hs : sh a = (ci + 5, xnf ci)) (hp : pc + 3 = pc') (E0 : xE → Value) (hv : ∀ E, E0 E = xfv E (n, sh, hi, hl, hr) (xft ci j) a j)
    (kk : ∀ (p : Program) (l : Launch) (e : Env) (R : Room) (s : State) (m : MethodId) (args : Array Value) (below : List Frame) (meth : Method) (c : Code) (E : xE) (Q : State → Prop) (Hh : Heap) (locs : List Loc) (ls : Array Slot),
    xCx p R s m args meth c E z w b → xEnd p l e R s m args below meth c E w b o Q → xRel E s.heap (n, sh, hi, hl, hr) k Hh locs → xlv E w.2.2.1 L ls →
    W p l e R s m args below meth c Hh locs k q Q (F0 m pc' ls (E0 E :: S.map (xtr E)))) : xR w b z k q pc L (.ref a :: S) (n, sh, hi, hl, hr) o := by
  intro p l e R s m args below meth c E Q Hh locs ls hC hE hR hL
  subst hp
  obtain ⟨C, T, N, ty0, hc, hin, hty, hnm, hj, rfl, hty1, hfin, hC1, hlk⟩ := hf
  have hn : n ≤ 1000000 := hR.1.2
  have h1 := kk p l e R s m args below meth c E Q Hh locs ls hC hE hR hL
  show W p l e R s m args below meth c Hh locs k q Q (F0 m pc ls (xtr E (.ref a) :: S.map (xtr E)))
  rw [xtr_ref (by omega)]
  refine va_get (D := E.1) (cl := vwCl) (tys := xtys E) (ws := xws E (n, sh, hi, hl, hr)) hC.1 hC.2.1 hC.2.2.2.2.1 hin hC.2.2.2.1 hC.2.2.2.2.2.1.1 hR.1.1 a (xws_at (H := (n, sh, hi, hl, hr)) ha |>.trans (by rw [xce_obj (H := (n, sh, hi, hl, hr)) hs])) hc j hj (hC.2.2.2.2.1 _ hlk) (fun _ h9 => by rw [hC1] at h9; exact h9) (v := E0 E) ?_ hd h1
  rw [xfs_at hj, hv]
theorem x_geti (hd : decode w.2.1 pc = .ok (.getfield idx, 3)) (hf : xFld w.1 idx ci j ty fin) (ha : a < n) (hs : sh a = (ci + 5, xnf ci)) (ht : xft ci j = 0) (hp : pc + 3 = pc') (kk : xR w b z k q pc' L (.int (hi a j) :: S) (n, sh, hi, hl, hr) o) : xR w b z k q pc L (.ref a :: S) (n, sh, hi, hl, hr) o :=
  x_getv (ft := 0) hd hf ha hs hp (fun _ => .int (hi a j)) (fun E => by rw [ht]; rfl) kk
theorem x_getl (hd : decode w.2.1 pc = .ok (.getfield idx, 3)) (hf : xFld w.1 idx ci j ty fin) (ha : a < n) (hs : sh a = (ci + 5, xnf ci)) (ht : xft ci j = 1) (hp : pc + 3 = pc') (kk : xR w b z k q pc' L (.long (hl a j) :: S) (n, sh, hi, hl, hr) o) : xR w b z k q pc L (.ref a :: S) (n, sh, hi, hl, hr) o :=
  x_getv (ft := 1) hd hf ha hs hp (fun _ => .long (hl a j)) (fun E => by rw [ht]; rfl) kk
theorem x_getr {t : Nat} (hd : decode w.2.1 pc = .ok (.getfield idx, 3)) (hf : xFld w.1 idx ci j ty fin) (ha : a < n) (hs : sh a = (ci + 5, xnf ci)) (ht : xft ci j = 2) (hv : hr a j = some t) (hp : pc + 3 = pc') (kk : xR w b z k q pc' L (.ref t :: S) (n, sh, hi, hl, hr) o) : xR w b z k q pc L (.ref a :: S) (n, sh, hi, hl, hr) o :=
  x_getv (ft := 2) hd hf ha hs hp (fun E => xtr E (.ref t)) (fun E => by rw [ht]; simp [xfv, hv, va_rf, xtr]) kk
theorem x_putv {v : Value} {hi' : Nat → Nat → Int32} {hl' : Nat → Nat → Int64} {hr' : Nat → Nat → Option Nat} (hd : decode w.2.1 pc = .ok (.putfield idx, 3)) (hf : xFld w.1 idx ci j ty fin) (hfin : fin = false ∨ (w.2.2.2.1 = true ∧ ∃ T N, vwCl[ci]? = some (w.1, T, N))) (ha : a < n) (hs : sh a = (ci + 5, xnf ci))
    (hn : ∀ E, narrow ty (xtr E v) = xtr E v) (hfit : ∀ E, fits ty (xtr E v) = true) (h1 : ∀ E, xfv E (n, sh, hi', hl', hr') (xft ci j) a j = xtr E v) (h2 : ∀ E i, i ≠ j → xfv E (n, sh, hi', hl', hr') (xft ci i) a i = xfv E (n, sh, hi, hl, hr) (xft ci i) a i) (h3 : ∀ x, x ≠ a → hi' x = hi x ∧ hl' x = hl x ∧ hr' x = hr x)
    (hp : pc + 3 = pc') (kk : xR w b z k q pc' L S (n, sh, hi', hl', hr') o) : xR w b z k q pc L (v :: .ref a :: S) (n, sh, hi, hl, hr) o := by
  intro p l e R s m args below meth c E Q Hh locs ls hC hE hR hL
  subst hp
  obtain ⟨C, T, N, ty0, hc, hin, hty, hnm, hj, rfl, hty1, hfn, hC1, hlk⟩ := hf
  have hnn : n ≤ 1000000 := hR.1.2
  show W p l e R s m args below meth c Hh locs k q Q (F0 m pc ls (xtr E v :: xtr E (.ref a) :: S.map (xtr E)))
  rw [xtr_ref (by omega)]
  have hat : (xws E (n, sh, hi, hl, hr))[a]? = some (E.2.2.1 + a, .inr (ci, (List.range (xnf ci)).map (fun i => xfv E (n, sh, hi, hl, hr) (xft ci i) a i))) := (xws_at (H := (n, sh, hi, hl, hr)) ha).trans (by rw [xce_obj (H := (n, sh, hi, hl, hr)) hs])
  have hset : (xws E (n, sh, hi, hl, hr)).set a (E.2.2.1 + a, .inr (ci, ((List.range (xnf ci)).map (fun i => xfv E (n, sh, hi, hl, hr) (xft ci i) a i)).set j (xtr E v))) = xws E (n, sh, hi', hl', hr') := by
    refine xws_set (H := (n, sh, hi, hl, hr)) (H' := (n, sh, hi', hl', hr')) ha rfl ?_ (fun x hx _ => xce_congr rfl (h3 x hx).1 (h3 x hx).2.1 (h3 x hx).2.2)
    rw [xce_obj (H := (n, sh, hi', hl', hr')) hs, xfs_set (h1 E) (h2 E)]
  have hlen : j < ((List.range (xnf ci)).map (fun i => xfv E (n, sh, hi, hl, hr) (xft ci i) a i)).length := by simpa using hj
  have key : ∀ (H1 : Heap) (locs1 : List Loc), va_P E.1 vwCl ((xws E (n, sh, hi, hl, hr)).set a (E.2.2.1 + a, .inr (ci, ((List.range (xnf ci)).map (fun i => xfv E (n, sh, hi, hl, hr) (xft ci i) a i)).set j (xtr E v)))) H1 → va_D (xA E) ((xws E (n, sh, hi, hl, hr)).set a (E.2.2.1 + a, .inr (ci, ((List.range (xnf ci)).map (fun i => xfv E (n, sh, hi, hl, hr) (xft ci i) a i)).set j (xtr E v)))) → va_S (xA E) s.heap H1 locs1 → W p l e R s m args below meth c H1 locs1 k q Q (F0 m (pc + 3) ls (S.map (xtr E))) := by
    intro H1 locs1 hP1 _ hS1
    rw [hset] at hP1
    exact kk p l e R s m args below meth c E Q H1 locs1 ls hC hE ⟨⟨hP1, hnn⟩, hS1, hR.2.2⟩ hL
  cases fin with
  | false => exact va_put (D := E.1) (cl := vwCl) (tys := xtys E) (ws := xws E (n, sh, hi, hl, hr)) (ty := ty) hC.1 hC.2.1 hC.2.2.2.2.1 hin ty0 hty hnm hC.2.2.2.1 hC.2.2.2.2.2.1.1 hR.1.1 xws_D hR.2.1 a hat hc j hj (hC.2.2.2.2.1 _ hlk) (fun _ h9 => by rw [hC1] at h9; exact h9) hfn (by rw [hty j hj, hty1]) (hn E) (hfit E) hlen hd key
  | true =>
    rcases hfin with hfin | ⟨hini, T2, N2, hc2⟩
    · cases hfin
    · have e1 := Option.some.inj (hc.symm.trans hc2)
      have e2 : C = w.1 := congrArg (fun r => r.1) e1
      exact va_putF (D := E.1) (cl := vwCl) (tys := xtys E) (ws := xws E (n, sh, hi, hl, hr)) (ty := ty) hC.1 hC.2.1 hC.2.2.2.2.1 hin ty0 hty hnm hC.2.2.2.1 hC.2.2.2.2.2.1.1 hR.1.1 xws_D hR.2.1 a hat hc j hj (hC.2.2.2.2.1 _ hlk) (fun _ h9 => by rw [hC1] at h9; exact h9) hfn (hC.2.2.2.2.2.2.2.1 hini) (by rw [hC1, e2]) (by rw [hty j hj, hty1]) (hn E) (hfit E) hlen hd key
theorem x_puti {x : Int32} (hd : decode w.2.1 pc = .ok (.putfield idx, 3)) (hf : xFld w.1 idx ci j .int fin) (hfin : fin = false ∨ (w.2.2.2.1 = true ∧ ∃ T N, vwCl[ci]? = some (w.1, T, N))) (ha : a < n) (hs : sh a = (ci + 5, xnf ci)) (ht : xft ci j = 0) (hp : pc + 3 = pc') (kk : xR w b z k q pc' L S (n, sh, xu hi a j x, hl, hr) o) : xR w b z k q pc L (.int x :: .ref a :: S) (n, sh, hi, hl, hr) o :=
  x_putv (v := .int x) hd hf hfin ha hs (fun _ => rfl) (fun _ => rfl) (fun E => by rw [ht]; simp [xfv, xu, xtr]) (fun E i h => by simp only [xfv, xu]; split <;> simp [h]) (fun x hx => ⟨xu_ne _ _ _ hx, rfl, rfl⟩) hp kk
theorem x_putz {x : Int32} (hx : x = 0 ∨ x = 1) (hd : decode w.2.1 pc = .ok (.putfield idx, 3)) (hf : xFld w.1 idx ci j .boolean fin) (hfin : fin = false ∨ (w.2.2.2.1 = true ∧ ∃ T N, vwCl[ci]? = some (w.1, T, N))) (ha : a < n) (hs : sh a = (ci + 5, xnf ci)) (ht : xft ci j = 0) (hp : pc + 3 = pc') (kk : xR w b z k q pc' L S (n, sh, xu hi a j x, hl, hr) o) : xR w b z k q pc L (.int x :: .ref a :: S) (n, sh, hi, hl, hr) o :=
  x_putv (v := .int x) hd hf hfin ha hs (fun _ => by rcases hx with rfl | rfl <;> rfl) (fun _ => by rcases hx with rfl | rfl <;> rfl) (fun E => by rw [ht]; simp [xfv, xu, xtr]) (fun E i h => by simp only [xfv, xu]; split <;> simp [h]) (fun x hx => ⟨xu_ne _ _ _ hx, rfl, rfl⟩) hp kk
theorem x_putl {x : Int64} (hd : decode w.2.1 pc = .ok (.putfield idx, 3)) (hf : xFld w.1 idx ci j .long fin) (hfin : fin = false ∨ (w.2.2.2.1 = true ∧ ∃ T N, vwCl[ci]? = some (w.1, T, N))) (ha : a < n) (hs : sh a = (ci + 5, xnf ci)) (ht : xft ci j = 1) (hp : pc + 3 = pc') (kk : xR w b z k q pc' L S (n, sh, hi, xu hl a j x, hr) o) : xR w b z k q pc L (.long x :: .ref a :: S) (n, sh, hi, hl, hr) o :=
  x_putv (v := .long x) hd hf hfin ha hs (fun _ => rfl) (fun _ => rfl) (fun E => by rw [ht]; simp [xfv, xu, xtr]) (fun E i h => by simp only [xfv, xu]; split <;> simp [h]) (fun x hx => ⟨rfl, xu_ne _ _ _ hx, rfl⟩) hp kk
theorem x_putr {x : Nat} (hty : (∃ c, ty = .object c) ∨ ∃ t, ty = .array t) (hd : decode w.2.1 pc = .ok (.putfield idx, 3)) (hf : xFld w.1 idx ci j ty fin) (hfin : fin = false ∨ (w.2.2.2.1 = true ∧ ∃ T N, vwCl[ci]? = some (w.1, T, N))) (ha : a < n) (hs : sh a = (ci + 5, xnf ci)) (ht : xft ci j = 2) (hp : pc + 3 = pc') (kk : xR w b z k q pc' L S (n, sh, hi, hl, xu hr a j (some x)) o) : xR w b z k q pc L (.ref x :: .ref a :: S) (n, sh, hi, hl, hr) o :=
  x_putv (v := .ref x) hd hf hfin ha hs (fun _ => by rcases hty with ⟨c, rfl⟩ | ⟨t, rfl⟩ <;> rfl) (fun _ => by rcases hty with ⟨c, rfl⟩ | ⟨t, rfl⟩ <;> rfl) (fun E => by rw [ht]; simp [xfv, xu, xtr, va_rf]) (fun E i h => by simp only [xfv, xu]; split <;> simp [h]) (fun x hx => ⟨rfl, rfl, xu_ne _ _ _ hx⟩) hp kk
end XF
