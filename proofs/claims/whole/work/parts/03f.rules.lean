def xrty : Nat → Option FieldType
  | 0 => none
  | 1 => some .int
  | 2 => some .long
  | _ => some .boolean
def xrm (b : xBd) : Room := { frames := b.1, cells := b.2.1, slots := b.2.2, locals := 100 * b.1 }
def xPre (E : xE) (z : xZ) (H : xHp) (U : State) : Prop := U.heap.size = E.2.2.1 + H.1 ∧ xPic E H U.heap ∧ xGl E z U U.heap
def xQc (E : xE) (N : Nat) (o : xOut) : Array Value → State → Outcome → State → Prop := fun _ st oc t => oc = .returned (o.1.map (xtr E)) ∧ xPic E o.2 t.heap ∧ o.2.1 = N ∧ va_F (xA E) st t
/-- A CONTRACT: method y with these arguments on this heap returns with o -/
def xM (y : MethodName) (cc : ByteArray) (nL rk : Nat) (b : xBd) (z : xZ) (As : List Value) (H : xHp) (o : xOut) : Prop :=
  ∀ (l : Launch) (E : xE), Met l y (.code y cc nL (xrty rk) :: xTB) (xrm b) (va_Pc (As.map (xtr E)) (xPre E z H)) (xQc E (H.1 + b.2.1) o) b.2.1 b.2.2 (xA E)
def xin : List Value → List (Option Value)
  | [] => []
  | .long x :: t => some (.long x) :: none :: xin t
  | .double x :: t => some (.double x) :: none :: xin t
  | v :: t => some v :: xin t
theorem xin_mem (E : xE) : ∀ (As : List Value) (j i : Nat) (v : Value), (xin As)[i]? = some (some v) → (j + i, xtr E v) ∈ lv_args j (As.map (xtr E))
  | [], j, i, v, h => by simp [xin] at h
  | a :: t, j, i, v, h => by
    have one : ∀ (a : Value), a.category = 1 → xin (a :: t) = some a :: xin t → (xin (a :: t))[i]? = some (some v) → (j + i, xtr E v) ∈ lv_args j ((a :: t).map (xtr E)) := by
      intro a hc he h
      rw [he] at h
      have hc2 : ¬ (xtr E a).category = 2 := by rw [xtr_cat]; omega
      simp only [List.map_cons, lv_args, if_neg hc2]
      cases i with
      | zero => simp at h; subst h; exact List.mem_cons_self
      | succ i =>
        rw [List.getElem?_cons_succ] at h
        have := xin_mem E t (j + 1) i v h
        rw [show j + (i + 1) = j + 1 + i by omega]
        exact List.mem_cons_of_mem _ this
    have two : ∀ (a : Value), a.category = 2 → xin (a :: t) = some a :: none :: xin t → (xin (a :: t))[i]? = some (some v) → (j + i, xtr E v) ∈ lv_args j ((a :: t).map (xtr E)) := by
      intro a hc he h
      rw [he] at h
      have hc2 : (xtr E a).category = 2 := by rw [xtr_cat]; exact hc
      simp only [List.map_cons, lv_args, if_pos hc2]
      cases i with
      | zero => simp at h; subst h; exact List.mem_cons_self
      | succ i =>
        rw [List.getElem?_cons_succ] at h
        cases i with
        | zero => simp at h
        | succ i =>
          rw [List.getElem?_cons_succ] at h
          have := xin_mem E t (j + 2) i v h
          rw [show j + (i + 1 + 1) = j + 2 + i by omega]
          exact List.mem_cons_of_mem _ this
    cases a with
    | int x => exact one _ rfl rfl h
    | long x => exact two _ rfl rfl h
    | float x => exact one _ rfl rfl h
    | double x => exact two _ rfl rfl h
    | null => exact one _ rfl rfl h
    | ref x => exact one _ rfl rfl h
    | retAddr x => exact one _ rfl rfl h
theorem xin_len (E : xE) : ∀ (As : List Value), (xin As).length = (lg_sl (As.map (xtr E))).length
  | [] => rfl
  | a :: t => by
    have ih := xin_len E t
    cases a <;> simp_all [xin, lg_sl, Value.category, xtr]
theorem xlv_in {E : xE} {As : List Value} {nL : Nat} (h : (xin As).length ≤ nL) : xlv E nL (xin As ++ List.replicate (nL - (xin As).length) none) ((lg_sl (As.map (xtr E)) ++ List.replicate (nL - (lg_sl (As.map (xtr E))).length) Slot.unset).toArray) := by
  have h1 := lv_entry (As.map (xtr E)) (n := nL) (by rw [← xin_len]; exact h)
  refine ⟨by simp; omega, h1.1, h1.2.1, fun x hx => ?_⟩
  obtain ⟨i, v⟩ := x
  obtain ⟨u, hu, rfl⟩ := xpr_mem.mp hx
  have h2 : (xin As)[i]? = some (some u) := by
    by_cases hi : i < (xin As).length
    · rw [List.getElem?_append_left hi] at hu
      exact hu
    · rw [List.getElem?_append_right (by omega)] at hu
      have := List.mem_of_getElem? hu
      simp at this
  have h3 := xin_mem E As 0 i u h2
  rw [Nat.zero_add] at h3
  exact h1.2.2 _ h3
theorem x_meth {y : MethodName} {cc : ByteArray} {nL rk : Nat} {b : xBd} {z : xZ} {As : List Value} {H : xHp} {o : xOut} {ini : Bool} {L : List (Option Value)} (hy : plainName y.cls = true) (hini : ini = true → y.name = "<init>") (hrk : rk ≤ 3) (hlen : (xin As).length ≤ nL) (hL : xin As ++ List.replicate (nL - (xin As).length) none = L)
    (kk : xR (y.cls, cc, nL, ini, rk) b z 0 0 0 L [] H o) : xM y cc nL rk b z As H o := by
  intro l E
  refine Met.ofW (cc := cc) (maxL := nL) (ret := xrty rk) hy rfl ?_
  intro p e s m args below meth c s₁ B hml hv
  obtain ⟨rfl, hsz, hPic, hGl⟩ := hv
  subst hL
  rw [lg_entry_eq]
  have hts := atoms_spec (ws := .code y cc nL (xrty rk) :: xTB) B.pre
  have hlocks : meth.locks = false := B.notSynchronized
  have hret : meth.sig.returnType = xrty rk := B.returns
  have hbb : c.code = cc := B.bytes
  refine kk p l e (headSpec (.code y cc nL (xrty rk) :: xTB) (xrm b)).room s m _ below meth c E _ s.heap [] _ ⟨B.exec, hbb, hml, findClass_of_methodNamed B.named, fun t ht => hts t (List.mem_cons_of_mem _ ht), hGl, by omega, fun hi => (name_of_methodNamed B.named B.method).1.trans (hini hi), Nat.le_refl _, Nat.le_refl _, Nat.le_refl _, Nat.le_refl _⟩ ?_ ⟨hPic, va_S.rf, by omega⟩ (xlv_in hlen)
  intro q pc ls Hh locs hq hR hrt
  refine W.widen (k := b.2.1) (n := b.2.2) (Nat.le_refl _) hq ?_
  have hN : o.2.1 = H.1 + b.2.1 := by have h9 := hR.2.2; omega
  have hQ : ∀ t : State, t.heap = Hh → s.WarmedH t.vm → xQc E (H.1 + b.2.1) o (As.map (xtr E)).toArray s (.returned (o.1.map (xtr E))) t := fun t ht _ => ⟨rfl, by rw [ht]; exact hR.1, hN, hR.2.1.F ht⟩
  obtain ⟨v, H'⟩ := o
  match rk, v, hrt, hret with
  | 0, none, hrt, hret => exact W.vret B.exec hbb hret hQ hR.2.1.2.2 hrt
  | 1, some (.int x), hrt, hret => exact W.iret B.exec hbb hret hQ hR.2.1.2.2 hrt
  | 2, some (.long x), hrt, hret => exact W.lret B.exec hbb hret hQ hR.2.1.2.2 hrt
  | 3, some (.int x), hrt, hret => exact W.zret (ty := .boolean) B.exec hbb hret (by rcases hrt.2 with rfl | rfl <;> rfl) hQ hR.2.1.2.2 hrt.1
/-! calls -/
def xMV (y : MethodName) (cc : ByteArray) (nL rk n ci : Nat) : Prop := (∃ T N, vwCl[ci]? = some (y.cls, T, N)) ∧ Cond.instanceMethod y ∈ xTB ∧ Cond.selects y.cls y y ∈ xTB ∧ Cond.initialized y.cls ∈ xTB ∧ Cond.code y cc nL (xrty rk) ∈ xTB ∧ (y.cls ≠ "java/lang/invoke/MethodHandle" ∧ y.cls ≠ "java/lang/invoke/VarHandle" ∧ (parseMethodDescriptor y.desc).map (fun d => d.parameters.length) = some n) ∧ nL ≤ 60
def xMS (y : MethodName) (cc : ByteArray) (nL rk n : Nat) : Prop := Cond.static y ∈ xTB ∧ Cond.initialized y.cls ∈ xTB ∧ Cond.code y cc nL (xrty rk) ∈ xTB ∧ (y.cls ≠ "java/lang/invoke/MethodHandle" ∧ y.cls ≠ "java/lang/invoke/VarHandle" ∧ (parseMethodDescriptor y.desc).map (fun d => d.parameters.length) = some n) ∧ nL ≤ 60
def xMI (y : MethodName) (cc : ByteArray) (nL n : Nat) : Prop := y.name = "<init>" ∧ Cond.instanceMethod y ∈ xTB ∧ Cond.initialized y.cls ∈ xTB ∧ Cond.code y cc nL (xrty 0) ∈ xTB ∧ (y.cls ≠ "java/lang/invoke/MethodHandle" ∧ y.cls ≠ "java/lang/invoke/VarHandle" ∧ (parseMethodDescriptor y.desc).map (fun d => d.parameters.length) = some n) ∧ nL ≤ 60
theorem xGoodT {cw : Cond} (h : cw ∈ xTB) : GoodIn xTB (cw :: xTB) := by
  intro t ht
  rcases List.mem_cons.mp ht with rfl | ht
  · exact ⟨h, good_of_word (xTB_good _ h)⟩
  · exact ⟨ht, good_of_word (xTB_good _ ht)⟩
theorem xGoodA {ws1 ws2 : List Cond} (h1 : ∀ t ∈ ws1, t ∈ xTB) (h2 : GoodIn xTB ws2) : GoodIn xTB (ws1 ++ ws2) := by
  intro t ht
  rcases List.mem_append.mp ht with ht | ht
  · exact ⟨h1 t ht, good_of_word (xTB_good _ (h1 t ht))⟩
  · exact h2 t ht
theorem x_blind (E : xE) (z : xZ) (H : xHp) (av : List Value) : FrameBlind (va_Pc av (xPre E z H)) := by
  intro a U g mk h
  obtain ⟨h0, h1, h2, h3⟩ := h
  exact ⟨h0, h1, h2, h3.same rfl⟩
theorem x_pic_size {E : xE} {H : xHp} {Hh : Heap} (h : xPic E H Hh) (hb : E.2.2.1 ≤ Hh.size) : E.2.2.1 + H.1 ≤ Hh.size := by
  by_cases h0 : H.1 = 0
  · omega
  · have := (h.1 (H.1 - 1) _ (xws_at (by omega))).lt
    simp only at this
    omega
section XC
variable {w : xWt} {b b' : xBd} {z : xZ} {k q pc pc' a idx ci : Nat} {L : List (Option Value)} {S S0 As : List Value} {H H' : xHp} {o : xOut} {y : MethodName} {cc : ByteArray} {nL rk n : Nat} {v : Option Value}
theorem x_after {p : Program} {l : Launch} {e : Env} {R : Room} {s : State} {m : MethodId} {args : Array Value} {below : List Frame} {meth : Method} {c : Code} {E : xE} {Q : State → Prop} {Hh : Heap} {locs : List Loc} {ls : Array Slot} {st0 rest : List Value} {N : Nat} {aa : Array Value}
    (hr : va_Run p l e R s m args below meth c Hh locs k q b'.2.1 b'.2.2 (F0 m pc ls st0) rest (xQc E N (v, H') aa) (xA E)) (hS : va_S (xA E) s.heap Hh locs)
    (kk : ∀ (H1 : Heap) (locs1 : List Loc), xPic E H' H1 → va_S (xA E) s.heap H1 locs1 → H'.1 = N → W p l e R s m args below meth c H1 locs1 (k + b'.2.1) (q + b'.2.2) Q (F0 m (pc + 3) ls ((v.map (xtr E)).toList ++ rest))) : W p l e R s m args below meth c Hh locs k q Q (F0 m pc ls st0) := by
  intro T hT X
  obtain ⟨v1, st₀, t, T', Lc, h0, X', hLc, e1, e2, ⟨hv, hp, hn, hz, hk⟩, st⟩ := hr T hT X
  cases hv
  rw [h0] at hz hk
  obtain ⟨t2, a1, b1⟩ := kk T'.heap (locs ++ Lc) (by rw [e1]; exact hp) ⟨Nat.le_trans hS.1 (by rw [e1]; exact hz), fun x g1 g2 => by rw [e1, hk x (Nat.lt_of_lt_of_le g1 hS.1) g2]; exact hS.2.1 x g1 g2, fun x hx => by
      rcases List.mem_append.mp hx with h | h
      · exact hS.2.2 x h
      · exact hLc x h⟩ hn T' rfl X'
  exact ⟨t2, st t2 a1, b1⟩
theorem x_callV (hd : decode w.2.1 pc = .ok (.invokevirtual idx, 3)) (hlk : Cond.methodLink w.1 idx y ∈ xTB) (hm : xMV y cc nL rk n ci) (hS0 : S0 = As.reverse ++ .ref a :: S) (hAn : As.length = n) (ha : a < H.1) (hs : H.2.1 a = (ci + 5, xnf ci)) (hS : (S.map fun v => v.category).sum ≤ 8) (hb1 : b'.1 + 1 ≤ b.1) (hb2 : k + b'.2.1 ≤ b.2.1) (hb3 : q + b'.2.2 ≤ b.2.2)
    (hM : xM y cc nL rk b' z (.ref a :: As) H (v, H')) (hp : pc + 3 = pc') (kk : xR w b z (k + b'.2.1) (q + b'.2.2) pc' L (v.toList ++ S) H' o) : xR w b z k q pc L S0 H o := by
  intro p l e R s m args below meth c E Q Hh locs ls hC hE hR hL
  subst hp; subst hS0
  have hnn : H.1 ≤ 1000000 := hR.1.2
  have hfr := hC.2.2.2.2.2.2.2.2.1
  have hlo := hC.2.2.2.2.2.2.2.2.2.1
  have hce := hC.2.2.2.2.2.2.2.2.2.2.1
  have hsl := hC.2.2.2.2.2.2.2.2.2.2.2
  have hst : (As.reverse ++ .ref a :: S).map (xtr E) = (As.map (xtr E)).reverse ++ .ref (E.2.2.1 + a) :: S.map (xtr E) := by
    rw [List.map_append, List.map_reverse, List.map_cons, xtr_ref (by omega)]
  rw [hst]
  intro T hT X
  have hsz : Hh.size = E.2.2.1 + H.1 := by
    have h8 := X.heapSize
    rw [hT] at h8
    have h9 := hR.2.2
    have h10 := x_pic_size hR.1 (Nat.le_trans hC.2.2.2.2.2.2.1 hR.2.1.1)
    omega
  obtain ⟨⟨T1, N1, hcl⟩, hm1, hm2, hm3, hm4, hm5, hm6⟩ := hm
  have hM1 := hM l E
  have e0 : ((Value.ref a :: As).map (xtr E)) = .ref (E.2.2.1 + a) :: As.map (xtr E) := by rw [List.map_cons, xtr_ref (by omega)]
  rw [e0] at hM1
  refine x_after (b' := b') (rest := S.map (xtr E)) (v := v) (H' := H') (N := H.1 + b'.2.1) (aa := (Value.ref (E.2.2.1 + a) :: As.map (xtr E)).toArray) ?_ hR.2.1 (fun H1 locs1 hP1 hS1 hN1 => ?_) T hT X
  · refine va_runV (As := As.map (xtr E)) (rest := S.map (xtr E)) (Ts := xTB) (own := w.1) (nL := w.2.2.1) (C := y.cls) (n := n) ⟨hC.1, hC.2.1, hC.2.2.1, hC.2.2.2.1, hC.2.2.2.2.1⟩ hM1 (cwV n hC.2.2.2.2.1 ?_ rfl rfl rfl ⟨rfl, hm5⟩ ⟨?_, ?_⟩) ⟨x_blind _ _ _ _, va_recv hC.2.2.2.2.2.1.1 hR.1.1 hcl ((xws_at ha).trans (by rw [xce_obj hs])), fun U hU hW => ⟨rfl, by rw [hU]; exact hsz, by rw [hU]; exact hR.1, hC.2.2.2.2.2.1.warm hW (fun x g1 g2 => by rw [hU]; exact hR.2.1.2.1 x g1 g2) (by rw [hU]; exact hR.2.1.1)⟩⟩ rfl (by rw [List.length_map]; exact hAn) hL.2.1 rfl (lv_room (by rw [xcat_sum]; exact hS)) hd ⟨by omega, by omega⟩
    · refine xGoodA ?_ (xGoodT hm4)
      intro t ht
      simp only [List.mem_cons, List.not_mem_nil, or_false] at ht
      rcases ht with rfl | rfl | rfl | rfl
      · exact hlk
      · exact hm1
      · exact hm2
      · exact hm3
    · show b'.1 + 1 ≤ R.frames
      omega
    · show 8 + (nL + 11) + 100 * b'.1 ≤ R.locals
      omega
  · have e3 : (v.map (xtr E)).toList ++ S.map (xtr E) = (v.toList ++ S).map (xtr E) := by cases v <;> rfl
    rw [e3]
    exact kk p l e R s m args below meth c E Q H1 locs1 ls hC hE ⟨hP1, hS1, by have h9 := hR.2.2; omega⟩ hL
theorem x_callS (hd : decode w.2.1 pc = .ok (.invokestatic idx, 3)) (hlk : Cond.methodLink w.1 idx y ∈ xTB) (hm : xMS y cc nL rk n) (hS0 : S0 = As.reverse ++ S) (hAn : As.length = n) (hS : (S.map fun v => v.category).sum ≤ 8) (hb1 : b'.1 + 1 ≤ b.1) (hb2 : k + b'.2.1 ≤ b.2.1) (hb3 : q + b'.2.2 ≤ b.2.2)
    (hM : xM y cc nL rk b' z As H (v, H')) (hp : pc + 3 = pc') (kk : xR w b z (k + b'.2.1) (q + b'.2.2) pc' L (v.toList ++ S) H' o) : xR w b z k q pc L S0 H o := by
  intro p l e R s m args below meth c E Q Hh locs ls hC hE hR hL
  subst hp; subst hS0
  have hfr := hC.2.2.2.2.2.2.2.2.1
  have hlo := hC.2.2.2.2.2.2.2.2.2.1
  have hce := hC.2.2.2.2.2.2.2.2.2.2.1
  have hsl := hC.2.2.2.2.2.2.2.2.2.2.2
  have hst : (As.reverse ++ S).map (xtr E) = (As.map (xtr E)).reverse ++ S.map (xtr E) := by rw [List.map_append, List.map_reverse]
  rw [hst]
  intro T hT X
  have hsz : Hh.size = E.2.2.1 + H.1 := by
    have h8 := X.heapSize
    rw [hT] at h8
    have h9 := hR.2.2
    have h10 := x_pic_size hR.1 (Nat.le_trans hC.2.2.2.2.2.2.1 hR.2.1.1)
    omega
  obtain ⟨hm1, hm3, hm4, hm5, hm6⟩ := hm
  have hM1 := hM l E
  refine x_after (b' := b') (rest := S.map (xtr E)) (v := v) (H' := H') (N := H.1 + b'.2.1) (aa := (As.map (xtr E)).toArray) ?_ hR.2.1 (fun H1 locs1 hP1 hS1 hN1 => ?_) T hT X
  · refine va_runS (As := As.map (xtr E)) (rest := S.map (xtr E)) (Ts := xTB) (own := w.1) (nL := w.2.2.1) (n := n) ⟨hC.1, hC.2.1, hC.2.2.1, hC.2.2.2.1, hC.2.2.2.2.1⟩ hM1 (va_cwS n hC.2.2.2.2.1 ?_ rfl rfl rfl hm5 ⟨?_, ?_⟩) ⟨x_blind _ _ _ _, fun U hU hW => ⟨rfl, by rw [hU]; exact hsz, by rw [hU]; exact hR.1, hC.2.2.2.2.2.1.warm hW (fun x g1 g2 => by rw [hU]; exact hR.2.1.2.1 x g1 g2) (by rw [hU]; exact hR.2.1.1)⟩⟩ rfl (by rw [List.length_map]; exact hAn) hL.2.1 rfl (lv_room (by rw [xcat_sum]; exact hS)) hd ⟨by omega, by omega⟩
    · refine xGoodA ?_ (xGoodT hm4)
      intro t ht
      simp only [List.mem_cons, List.not_mem_nil, or_false] at ht
      rcases ht with rfl | rfl | rfl
      · exact hlk
      · exact hm1
      · exact hm3
    · show b'.1 + 1 ≤ R.frames
      omega
    · show 8 + (nL + 11) + 100 * b'.1 ≤ R.locals
      omega
  · have e3 : (v.map (xtr E)).toList ++ S.map (xtr E) = (v.toList ++ S).map (xtr E) := by cases v <;> rfl
    rw [e3]
    exact kk p l e R s m args below meth c E Q H1 locs1 ls hC hE ⟨hP1, hS1, by have h9 := hR.2.2; omega⟩ hL
theorem x_callI (hd : decode w.2.1 pc = .ok (.invokespecial idx, 3)) (hlk : Cond.methodLink w.1 idx y ∈ xTB ∨ ∃ host, Cond.methodLinkNest w.1 idx y host ∈ xNW) (hm : xMI y cc nL n) (hS0 : S0 = As.reverse ++ .ref a :: S) (hAn : As.length = n) (ha : a < H.1) (hS : (S.map fun v => v.category).sum ≤ 8) (hb1 : b'.1 + 1 ≤ b.1) (hb2 : k + b'.2.1 ≤ b.2.1) (hb3 : q + b'.2.2 ≤ b.2.2)
    (hM : xM y cc nL 0 b' z (.ref a :: As) H (none, H')) (hp : pc + 3 = pc') (kk : xR w b z (k + b'.2.1) (q + b'.2.2) pc' L S H' o) : xR w b z k q pc L S0 H o := by
  intro p l e R s m args below meth c E Q Hh locs ls hC hE hR hL
  subst hp; subst hS0
  have hnn : H.1 ≤ 1000000 := hR.1.2
  have hfr := hC.2.2.2.2.2.2.2.2.1
  have hlo := hC.2.2.2.2.2.2.2.2.2.1
  have hce := hC.2.2.2.2.2.2.2.2.2.2.1
  have hsl := hC.2.2.2.2.2.2.2.2.2.2.2
  have hst : (As.reverse ++ .ref a :: S).map (xtr E) = (As.map (xtr E)).reverse ++ .ref (E.2.2.1 + a) :: S.map (xtr E) := by
    rw [List.map_append, List.map_reverse, List.map_cons, xtr_ref (by omega)]
  rw [hst]
  intro T hT X
  have hsz : Hh.size = E.2.2.1 + H.1 := by
    have h8 := X.heapSize
    rw [hT] at h8
    have h9 := hR.2.2
    have h10 := x_pic_size hR.1 (Nat.le_trans hC.2.2.2.2.2.2.1 hR.2.1.1)
    omega
  obtain ⟨hm1, hm2, hm3, hm4, hm5, hm6⟩ := hm
  have hM1 := hM l E
  have e0 : ((Value.ref a :: As).map (xtr E)) = .ref (E.2.2.1 + a) :: As.map (xtr E) := by rw [List.map_cons, xtr_ref (by omega)]
  rw [e0] at hM1
  have hpre : PreS s Hh (va_Pc (.ref (E.2.2.1 + a) :: As.map (xtr E)) (xPre E z H)) (.ref (E.2.2.1 + a) :: As.map (xtr E)) := ⟨x_blind _ _ _ _, fun U hU hW => ⟨rfl, by rw [hU]; exact hsz, by rw [hU]; exact hR.1, hC.2.2.2.2.2.1.warm hW (fun x g1 g2 => by rw [hU]; exact hR.2.1.2.1 x g1 g2) (by rw [hU]; exact hR.2.1.1)⟩⟩
  have hroom : (xrm b').frames + 1 ≤ R.frames ∧ 8 + (nL + 11) + (xrm b').locals ≤ R.locals := ⟨by show b'.1 + 1 ≤ R.frames; omega, by show 8 + (nL + 11) + 100 * b'.1 ≤ R.locals; omega⟩
  refine x_after (b' := b') (rest := S.map (xtr E)) (v := none) (H' := H') (N := H.1 + b'.2.1) (aa := (Value.ref (E.2.2.1 + a) :: As.map (xtr E)).toArray) ?_ hR.2.1 (fun H1 locs1 hP1 hS1 hN1 => ?_) T hT X
  · rcases hlk with hlk | ⟨host, hlk⟩
    · exact va_runI (As := As.map (xtr E)) (rest := S.map (xtr E)) (Ts := xTB) (own := w.1) (nL := w.2.2.1) (n := n) ⟨hC.1, hC.2.1, hC.2.2.1, hC.2.2.2.1, hC.2.2.2.2.1⟩ hM1 (cwI n hC.2.2.2.2.1 (xGoodT hm4) rfl rfl rfl (hC.2.2.2.2.1 _ hm3) (hC.2.2.2.2.1 _ hlk) (hC.2.2.2.2.1 _ hm2) hm1 hm5 hroom) hpre rfl (by rw [List.length_map]; exact hAn) hL.2.1 rfl (lv_room (by rw [xcat_sum]; exact hS)) hd ⟨by omega, by omega⟩
    · exact va_runIN (As := As.map (xtr E)) (rest := S.map (xtr E)) (Ts := xTB) (own := w.1) (nL := w.2.2.1) (n := n) ⟨hC.1, hC.2.1, hC.2.2.1, hC.2.2.2.1, hC.2.2.2.2.1⟩ hM1 ⟨va_cnB n hC.2.2.2.2.1 (xGoodT hm4) rfl rfl rfl (hC.2.2.2.2.2.1.2.1 _ hlk) (hC.2.2.2.2.1 _ hm3) hm5 hroom, hm1, hC.2.2.2.2.1 _ hm2⟩ hpre rfl (by rw [List.length_map]; exact hAn) hL.2.1 rfl (lv_room (by rw [xcat_sum]; exact hS)) hd ⟨by omega, by omega⟩
  · exact kk p l e R s m args below meth c E Q H1 locs1 ls hC hE ⟨hP1, hS1, by have h9 := hR.2.2; omega⟩ hL
end XC
