/-! THE CLAIM OUT OF ONE WALK OF THE LAW'S BODY. Your part is whole_start (and what it stands on); all else here is the same for every law, but numbers. -/
def R_law : String := "WidenedBanksLaw"
def lw_P (b : Addr) (xs : List Int32) (args : Array Value) (s : State) : Prop := args = #[.ref b] ∧ s.IntsAt b xs ∧ xs.length ≤ 3584 ∧ (Jvm.Cond.and given_1 narrow_1).before args s = true
def lw_Q (_ : Array Value) (s : State) (o : Outcome) (t : State) : Prop := o = .returned (some (.int 1)) ∧ Framed s o t [] 600000 7302250
def lw_Z (below : List Frame) (a : Array Value) (s : State) : State → Prop := fun t => ∃ o, t.status = .running ∧ Ended t below o ∧ lw_Q a s o t
/-- the law's own end, with 1 on the stack, nothing written that was there before, its room as the claim has it -/
theorem lw_ret {p : Program} {l : Launch} {e : Env} {s : State} {m : MethodId} {below : List Frame} {meth : Method} {c : Code} {b : Nat} (hx : p.tables.exec = Jvm.exec) (hb : c.code = code) (hr : meth.sig.returnType = ret) (hlocks : meth.locks = false) {pc : Nat} {H : Heap} {ls : Array Slot} (hdg : decode code pc = .ok (.ireturn, 1)) : W p l e room_1 s m #[Value.ref b] below meth c H [] 600000 7302250 (lw_Z below #[Value.ref b] s) (F0 m pc ls [.int 1]) := by
  intro T hT X
  obtain ⟨fs, hret, hrun, hended, hW, hframe⟩ := X.leave (v := some (.int 1)) (hlocks := hlocks) (fun h => by rw [hr] at h; cases h)
  have hmeth' : T.vm.method? m = some meth := X.method'
  refine ⟨T.setFrames fs, ?_, .returned (some (.int 1)), hrun, hended, rfl, ⟨_, rfl⟩, hW, hframe⟩
  jvm_step X.here [X.here.top, hx, hb, hdg, hmeth', hr, ret, narrow_b1]
  (try refine ⟨rfl, ?_⟩); (try refine ⟨rfl, ?_⟩)
  first | (intro acts; rw [hret _ acts rfl rfl rfl]) | rw [hret _ _ rfl rfl rfl]
  exact Steps.refl _
/-- what holds at the law's entry: the machine, the code, the tables' words (any of lw_tbl by 'hts w (by decide +kernel)'), the script of L ints xs at the cell b, what the Statement gives of the start (any of its parts by flat_of_before) -/
def lw_At (p : Program) (s : State) (m : MethodId) (meth : Method) (c : Code) (b L : Nat) (xs : Nat → Int32) : Prop :=
  p.tables.exec = Jvm.exec ∧ c.code = code ∧ meth.sig.returnType = ret ∧ c.maxLocals = 4 ∧ s.vm.findClass R_law = some m.cls ∧ (∀ w ∈ lw_tbl, w.before #[Value.ref b] s = true) ∧ va_X b L xs s s.heap ∧ b < s.heap.size ∧ meth.locks = false ∧ (Jvm.Cond.and given_1 narrow_1).before #[Value.ref b] s = true
/-- what the numbers are at first -/
def xInit (hi : Nat → Nat → Int32) (hl : Nat → Nat → Int64) : Prop := ∀ a j, a < 122 → j < (xsh a).2 → (xsh a).2 ≤ 144 → hi a j = xini a j ∧ hl a j = 0
section XQ
variable {w : xWt} {b : xBd} {z : xZ} {k q pc : Nat} {L : List (Option Value)} {S : List Value} {o : xOut} {n : Nat} {sh sh' : Nat → Nat × Nat} {hi hi' : Nat → Nat → Int32} {hl hl' : Nat → Nat → Int64} {hr hr' : Nat → Nat → Option Nat}
theorem arrV_congr {cI : ClassId} {N : Nat} {f g : Nat → Value} (h : ∀ j, j < N → f j = g j) : arrV cI N f = arrV cI N g := by
  unfold arrV
  congr 1
  apply Array.ext
  · simp
  · intro i h1 h2
    simp only [Array.size_ofFn] at h1
    simp [h i h1]
/-- two small heaps with the same cells and references -/
theorem x_heq (h1 : ∀ a, a < n → sh a = sh' a) (h2 : ∀ a, a < n → 3 ≤ (sh' a).1 → ∀ j, j < (sh' a).2 → hr a j = hr' a j) (kk : xR w b z k q pc L S (n, sh', hi, hl, hr') o) : xR w b z k q pc L S (n, sh, hi, hl, hr) o := by
  intro p l e R s m args below meth c E Q Hh locs ls hC hE hR hL
  refine kk p l e R s m args below meth c E Q Hh locs ls hC hE ⟨⟨?_, hR.1.2⟩, hR.2.1, hR.2.2⟩ hL
  intro i x hx
  obtain ⟨hi1, rfl⟩ := xws_some hx
  have hi1 : i < n := hi1
  have h0 := hR.1.1 i _ (xws_at (H := (n, sh, hi, hl, hr)) hi1)
  have hs : sh i = sh' i := h1 i hi1
  have h3 := h2 i hi1
  match hk : (sh' i).1, h3 with
  | 0, _ => simpa only [va_at, xce, hs, hk] using h0
  | 1, _ => simpa only [va_at, xce, hs, hk] using h0
  | 2, _ => simpa only [va_at, xce, hs, hk] using h0
  | 3, h3 =>
    simp only [va_at, xce, hs, hk] at h0 ⊢
    rw [h0, vp_cell_q, vp_cell_q]
    exact congrArg some (arrV_congr (fun j hj => by rw [h3 (by omega) j hj]))
  | 4, h3 =>
    simp only [va_at, xce, hs, hk] at h0 ⊢
    rw [h0, vp_cell_q, vp_cell_q]
    exact congrArg some (arrV_congr (fun j hj => by rw [h3 (by omega) j hj]))
  | c2 + 5, h3 =>
    simp only [va_at, xce, hs, hk] at h0 ⊢
    have e1 : (List.range (sh' i).2).map (fun k => xfv E (n, sh, hi, hl, hr) (xft c2 k) i k) = (List.range (sh' i).2).map (fun k => xfv E (n, sh', hi, hl, hr') (xft c2 k) i k) := by
      apply List.map_congr_left
      intro j hj
      have hj := List.mem_range.mp hj
      simp only [xfv]
      rw [h3 (by omega) j hj]
    rw [e1] at h0
    exact h0
end XQ
theorem law_xR (z : xZ) (MC : ∀ hi hl, xInit hi hl → ∃ st, F_L_law_18 z 1000000 0 hi hl xr0 = some (1, st)) : ∃ Hf : xHp, xR (RL, cL_law, 4, false, 3) (40, 122, 13196) z 0 0 0 [some (.ref 1000003), none, none, none] [] xH0 (some (.int 1), Hf) := by
  have hck := C_both_chk
  cases hB : C_both with
  | none => rw [hB] at hck; cases hck
  | some H =>
    rw [hB] at hck
    obtain ⟨n, sh, hi, hl, hr⟩ := H
    have hck2 : xchk (n, sh, hi, hl, hr) = true := hck
    clear hck
    simp only [xchk, Bool.and_eq_true, decide_eq_true_eq, List.all_eq_true, List.mem_range, Bool.or_eq_true] at hck2
    obtain ⟨hn, hck⟩ := hck2
    have hn : n = 122 := hn
    subst hn
    obtain ⟨st, hst⟩ := MC hi hl (fun a j ha hj h72 => by
      have h3 := (hck a ha).2.2
      rcases h3 with h3 | h3
      · omega
      · exact h3 j hj)
    refine ⟨xhp st.1 st.2.1 st.2.2, ?_⟩
    refine xg_bH hB (fun n1 sh1 hi1 hl1 hr1 e1 e2 => ?_)
    refine x_new (pc' := 3) (C := RX11) (ci := 10) dL_law_0 k_L_7 clsX11 (by decide) (by decide) (by decide) rfl ?_
    refine x_dup (pc' := 4) dL_law_3 rfl rfl ?_
    refine x_callI (pc' := 7) (S := [.ref 0]) (As := []) (b' := (4, 89, 2521)) dL_law_4 (Or.inl l_L_9) m_X11_init rfl rfl (show 0 < 0 + 1 by decide) (Nat.le_of_ble_eq_true rfl) (Nat.le_of_ble_eq_true rfl) (by decide) (by decide) (rc_X11_init _ _ _ _ _ _ _ e1) rfl ?_
    refine x_astore_n (pc' := 8) (L' := [some (.ref 1000003), some (.ref 0), none, none]) dL_law_7 (Nat.le_of_ble_eq_true rfl) rfl rfl ?_
    have hn1 : n1 = 90 := by
      have h9 := C_first_chk
      rw [e1] at h9
      exact of_decide_eq_true h9
    subst hn1
    refine x_new (pc' := 11) (C := RX12) (ci := 11) dL_law_8 k_L_10 clsX12 (by decide) (by decide) (by decide) rfl ?_
    refine x_dup (pc' := 12) dL_law_11 rfl rfl ?_
    refine x_callI (pc' := 15) (S := [.ref 90]) (As := []) (b' := (2, 31, 10616)) dL_law_12 (Or.inl l_L_12) m_X12_init rfl rfl (show 90 < 90 + 1 by decide) (Nat.le_of_ble_eq_true rfl) (Nat.le_of_ble_eq_true rfl) (by decide) (by decide) (rc_X12_init _ _ _ _ _ _ _ e2) rfl ?_
    refine x_astore_n (pc' := 16) (L' := [some (.ref 1000003), some (.ref 0), some (.ref 90), none]) dL_law_15 (Nat.le_of_ble_eq_true rfl) rfl rfl ?_
    refine x_iconst (pc' := 17) (x := 0) dL_law_16 (by decide) rfl ?_
    refine x_istore_n (pc' := 18) (L' := [some (.ref 1000003), some (.ref 0), some (.ref 90), some (.int 0)]) dL_law_17 (Nat.le_of_ble_eq_true rfl) rfl rfl ?_
    refine x_heq (sh' := xsh) (hr' := xhr xr0) (fun a ha => (hck a ha).1) (fun a ha h3 j hj => ?_) ?_
    · rcases (hck a ha).2.1 with h4 | h4
      · omega
      · exact h4 j hj
    · exact r_L_law_18 1000000 0 hi hl xr0 (1, st) hst
theorem whole_of {p : Program} {e : Env} {s : State} {m : MethodId} {below : List Frame} {meth : Method} {c : Code} {l : Launch} {b L : Nat} {xs : Nat → Int32} (MC : ∀ hi hl, xInit hi hl → ∃ st, F_L_law_18 (L, xs) 1000000 0 hi hl xr0 = some (1, st)) (C0 : lw_At p s m meth c b L xs) : W p l e room_1 s m #[Value.ref b] below meth c s.heap [] 0 0 (lw_Z below #[Value.ref b] s) (entryFrame m ([Value.ref b] : List Value).toArray 4) := by
  obtain ⟨hx, hb, hr, hml, hown, hts, hX, hbl, hlocks, hgv⟩ := C0
  obtain ⟨Hf, hR⟩ := law_xR (L, xs) MC
  have hs := flat_of_before _ hgv
  have hcls : ∀ cc : Nat, ∃ x : ClassId × (Nat → Nat), ∀ q, vwCl[cc]? = some q → u_Kn s q.1 q.2.1 q.2.2 x.1 x.2 := by
    intro cc
    have key : ∀ {C : String} {T : u_T} {N n : Nat}, vwCl[cc]? = some (C, T, N) → (∀ t ∈ u_ws C T N, t ∈ xTB) → Cond.instantiable C n ∈ xTB → ∃ x : ClassId × (Nat → Nat), ∀ q, vwCl[cc]? = some q → u_Kn s q.1 q.2.1 q.2.2 x.1 x.2 := by
      intro C T N n h1 h2 h3
      obtain ⟨cC, iS, h⟩ := u_known (ws := lw_tbl) hts (fun t ht => xTB_in t (h2 t ht)) (hts _ (xTB_in _ h3))
      exact ⟨(cC, iS), fun q hq => by rw [h1] at hq; cases hq; exact h⟩
    match cc with
    | 0 => exact key rfl inX0 (clsX0.choose_spec.choose_spec.choose_spec.2.2.2.2.1)
    | 1 => exact key rfl inX1 (clsX1.choose_spec.choose_spec.choose_spec.2.2.2.2.1)
    | 2 => exact key rfl inX2 (clsX2.choose_spec.choose_spec.choose_spec.2.2.2.2.1)
    | 3 => exact key rfl inX4 (clsX4.choose_spec.choose_spec.choose_spec.2.2.2.2.1)
    | 4 => exact key rfl inX5 (clsX5.choose_spec.choose_spec.choose_spec.2.2.2.2.1)
    | 5 => exact key rfl inX6 (clsX6.choose_spec.choose_spec.choose_spec.2.2.2.2.1)
    | 6 => exact key rfl inX7 (clsX7.choose_spec.choose_spec.choose_spec.2.2.2.2.1)
    | 7 => exact key rfl inX8 (clsX8.choose_spec.choose_spec.choose_spec.2.2.2.2.1)
    | 8 => exact key rfl inX9 (clsX9.choose_spec.choose_spec.choose_spec.2.2.2.2.1)
    | 9 => exact key rfl inX10 (clsX10.choose_spec.choose_spec.choose_spec.2.2.2.2.1)
    | 10 => exact key rfl inX11 (clsX11.choose_spec.choose_spec.choose_spec.2.2.2.2.1)
    | 11 => exact key rfl inX12 (clsX12.choose_spec.choose_spec.choose_spec.2.2.2.2.1)
    | n + 12 => exact ⟨(0, fun _ => 0), fun q hq => by simp at hq⟩
  obtain ⟨cI, kI, pI, i1, i2, i3⟩ := Cond.arrayClass_spec (hts _ (xTB_in _ w_aint))
  obtain ⟨cJ, kJ, pJ, j1, j2, j3⟩ := Cond.arrayClass_spec (hts _ (xTB_in _ w_along))
  obtain ⟨cB, kB, pB, b1, b2, b3⟩ := Cond.arrayClass_spec (hts _ (xTB_in _ w_abyte))
  have hO2 : va_AO RX2 s := va_AO.of (A := #[Value.ref b]) (hts _ (List.mem_of_getElem? (i := 271) (by decide +kernel)))
  have hO6 : va_AO RX6 s := va_AO.of (A := #[Value.ref b]) (hts _ (List.mem_of_getElem? (i := 177) (by decide +kernel)))
  obtain ⟨pM, cM, kM, m1, -, m3, m4, m5⟩ := Cond.arrayOver_spec hO2
  obtain ⟨pT, cT, kT, t1, -, t3, t4, t5⟩ := Cond.arrayOver_spec hO6
  have hA0 : ∀ a : Nat, a < s.heap.size → ¬ (s.heap.size ≤ a) := fun a h => by omega
  have inW : (Cond.initialized "WidenedBanks$Kinds").before #[Value.ref b] s = true := hts _ (xTB_in _ (m_X3_taken.2.1))
  obtain ⟨o0, z0, T0⟩ := va_Tof (args := #[Value.ref b]) (s := s) (tm := .static "WidenedBanks$Kinds" "WIDENS" "[I") (ty := .int) (N := 8) (f := fun j => .int (xwid j)) (A := fun q => s.heap.size ≤ q) (by decide) (hs _ (by decide +kernel)) (va_eqt (hs _ (by decide +kernel))) (fun j hj => by
    match j, hj with
    | 0, _ => exact va_eqt (hs _ (by decide +kernel))
    | 1, _ => exact va_eqt (hs _ (by decide +kernel))
    | 2, _ => exact va_eqt (hs _ (by decide +kernel))
    | 3, _ => exact va_eqt (hs _ (by decide +kernel))
    | 4, _ => exact va_eqt (hs _ (by decide +kernel))
    | 5, _ => exact va_eqt (hs _ (by decide +kernel))
    | 6, _ => exact va_eqt (hs _ (by decide +kernel))
    | 7, _ => exact va_eqt (hs _ (by decide +kernel))) hA0
  obtain ⟨o1, z1, T1⟩ := va_Tof (args := #[Value.ref b]) (s := s) (tm := .static "WidenedBanks$Kinds" "LOWEST" "[J") (ty := .long) (N := 8) (f := fun j => .long (xlow j)) (A := fun q => s.heap.size ≤ q) (by decide) (hs _ (by decide +kernel)) (va_eqt (hs _ (by decide +kernel))) (fun j hj => by
    match j, hj with
    | 0, _ => exact va_eqtl (hs _ (by decide +kernel))
    | 1, _ => exact va_eqtl (hs _ (by decide +kernel))
    | 2, _ => exact va_eqtl (hs _ (by decide +kernel))
    | 3, _ => exact va_eqtl (hs _ (by decide +kernel))
    | 4, _ => exact va_eqtl (hs _ (by decide +kernel))
    | 5, _ => exact va_eqtl (hs _ (by decide +kernel))
    | 6, _ => exact va_eqtl (hs _ (by decide +kernel))
    | 7, _ => exact va_eqtl (hs _ (by decide +kernel))) hA0
  obtain ⟨o2, z2, T2⟩ := va_Tof (args := #[Value.ref b]) (s := s) (tm := .static "WidenedBanks$Kinds" "HIGHEST" "[J") (ty := .long) (N := 8) (f := fun j => .long (xhig j)) (A := fun q => s.heap.size ≤ q) (by decide) (hs _ (by decide +kernel)) (va_eqt (hs _ (by decide +kernel))) (fun j hj => by
    match j, hj with
    | 0, _ => exact va_eqtl (hs _ (by decide +kernel))
    | 1, _ => exact va_eqtl (hs _ (by decide +kernel))
    | 2, _ => exact va_eqtl (hs _ (by decide +kernel))
    | 3, _ => exact va_eqtl (hs _ (by decide +kernel))
    | 4, _ => exact va_eqtl (hs _ (by decide +kernel))
    | 5, _ => exact va_eqtl (hs _ (by decide +kernel))
    | 6, _ => exact va_eqtl (hs _ (by decide +kernel))
    | 7, _ => exact va_eqtl (hs _ (by decide +kernel))) hA0
  let E : xE := ((fun cc => (Classical.choose (hcls cc)).1, fun cc => (Classical.choose (hcls cc)).2), fun j => if j = 0 then cI else if j = 1 then cJ else if j = 2 then cB else if j = 3 then cM else cT, s.heap.size, fun j => if j = 0 then o0 else if j = 1 then o1 else if j = 2 then o2 else b)
  have hGl : xGl E (L, xs) s s.heap := by
    refine ⟨⟨fun cc q hq => Classical.choose_spec (hcls cc) q hq, fun k q hk => ?_⟩, fun t ht => ?_, hO2, hO6, ⟨?_, T0⟩, ⟨?_, T1⟩, ⟨?_, T2⟩, hX, hbl, hbl⟩
    · match k, hk with
      | 0, hk => cases hk; exact ⟨fun n zz => ⟨fun k h => (by cases h), kI, i2, pI, i3⟩, i1⟩
      | 1, hk => cases hk; exact ⟨fun n zz => ⟨fun k h => (by cases h), kJ, j2, pJ, j3⟩, j1⟩
      | 2, hk => cases hk; exact ⟨fun n zz => ⟨fun k h => (by cases h), kB, b2, pB, b3⟩, b1⟩
      | 3, hk => cases hk; exact ⟨fun n zz => ⟨fun k h => (by cases h), kM, m3, pM, m4⟩, kM, pM, m3, m4, m1, m5⟩
      | 4, hk => cases hk; exact ⟨fun n zz => ⟨fun k h => (by cases h), kT, t3, pT, t4⟩, kT, pT, t3, t4, t1, t5⟩
      | n + 5, hk => simp [xtys] at hk
    · simp only [xNW, List.mem_cons, List.not_mem_nil, or_false] at ht
      rcases ht with rfl | rfl | rfl | rfl
      · exact va_Nw.of rfl (hts _ (List.mem_of_getElem? (i := 85) (by decide +kernel)))
      · exact va_Nw.of rfl (hts _ (List.mem_of_getElem? (i := 196) (by decide +kernel)))
      · exact va_Nw.of rfl (hts _ (List.mem_of_getElem? (i := 273) (by decide +kernel)))
      · exact va_Nw.of rfl (hts _ (List.mem_of_getElem? (i := 303) (by decide +kernel)))
    · exact va_Zof (hts _ (List.mem_of_getElem? (i := 317) (by decide +kernel))) inW z0 hA0
    · exact va_Zof (hts _ (List.mem_of_getElem? (i := 505) (by decide +kernel))) inW z1 hA0
    · exact va_Zof (hts _ (List.mem_of_getElem? (i := 507) (by decide +kernel))) inW z2 hA0
  have hentry : entryFrame m ([Value.ref b] : List Value).toArray 4 = F0 m 0 ((lg_sl ([Value.ref 1000003].map (xtr E)) ++ List.replicate (4 - (lg_sl ([Value.ref 1000003].map (xtr E))).length) Slot.unset).toArray) [] := by
    have e1 : [Value.ref 1000003].map (xtr E) = [Value.ref b] := rfl
    rw [e1]
    exact lg_entry_eq m _ 4
  rw [hentry]
  refine hR p l e room_1 s m _ below meth c E _ s.heap [] _ ⟨hx, hb, hml, hown, fun t ht => hts t (xTB_in t ht), hGl, Nat.le_refl _, fun h9 => (by cases h9), (by decide), (by decide), (by decide), (by decide)⟩ ?_ ⟨⟨?_, (by decide)⟩, va_S.rf, rfl⟩ (xlv_in (As := [Value.ref 1000003]) (by decide))
  · intro q pc ls Hh locs hq hRl hrt
    refine va_forget (fun x hx9 => hRl.2.1.2.2 x hx9) ?_
    refine W.widen (k := 600000) (n := 7302250) (by decide) (Nat.le_trans hq (by decide)) ?_
    exact lw_ret hx hb hr hlocks hrt.1
  · intro k x hx9
    simp [xws, xH0] at hx9
