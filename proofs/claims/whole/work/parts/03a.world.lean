/-! THE WORDS that all methods share, by their places in lw_tbl -/
def xTB : List Cond := lw_tbl.filter goodWord
theorem xTB_of {w : Cond} (i : Nat) (h : lw_tbl[i]? = some w) (g : goodWord w = true) : w ∈ xTB := List.mem_filter.mpr ⟨List.mem_of_getElem? h, g⟩
theorem xTB_in : ∀ w ∈ xTB, w ∈ lw_tbl := fun _ h => (List.mem_filter.mp h).1
theorem xTB_good : ∀ w ∈ xTB, goodWord w = true := fun _ h => (List.mem_filter.mp h).2
theorem xGood {cw c0 : Cond} (h : cw ∈ xTB) : GoodIn (c0 :: xTB) (cw :: xTB) := by
  intro w hw
  rcases List.mem_cons.mp hw with rfl | hw
  · exact ⟨List.mem_cons_of_mem _ h, good_of_word (xTB_good _ h)⟩
  · exact ⟨List.mem_cons_of_mem _ hw, good_of_word (xTB_good _ hw)⟩
/-! THE SMALL HEAP: how many cells; of each its kind (0 int[], 1 long[], 2 byte[], 3 Image[], 4 Thing[], 5 + c an object of vwCl's class c) and length; ints, longs, references by cell and place -/
abbrev xHp : Type := Nat × (Nat → Nat × Nat) × (Nat → Nat → Int32) × (Nat → Nat → Int64) × (Nat → Nat → Option Nat)
abbrev xOut : Type := Option Value × xHp
abbrev xZ : Type := Nat × (Nat → Int32)
/-- slots and classes, array classes, the first new address, the addresses of the old arrays (0 to 2 the static ones, 3 the script) -/
abbrev xE : Type := va_G × (Nat → ClassId) × Nat × (Nat → Nat)
/-- own class, code, locals, a constructor?, what it returns (0 nothing, 1 int, 2 long, 3 boolean) -/
abbrev xWt : Type := String × ByteArray × Nat × Bool × Nat
/-- frames, cells, slots that a method may take -/
abbrev xBd : Type := Nat × Nat × Nat
def xA (E : xE) : Nat → Prop := fun q => E.2.2.1 ≤ q
def xad (E : xE) (k : Nat) : Nat := if k < 1000000 then E.2.2.1 + k else E.2.2.2 (k - 1000000)
def xtr (E : xE) : Value → Value
  | .ref k => .ref (xad E k)
  | v => v
def xtys (E : xE) : List (ClassId × FieldType) := [(E.2.1 0, .int), (E.2.1 1, .long), (E.2.1 2, .byte), (E.2.1 3, .object RX2), (E.2.1 4, .object RX6)]
def xu {α : Type} (f : Nat → Nat → α) (a j : Nat) (v : α) : Nat → Nat → α := fun a' j' => if a' = a ∧ j' = j then v else f a' j'
def xftT : List (List Nat) := [[2, 2, 2, 2, 0], [2, 2, 0, 0], [2, 2, 0], [2, 2, 0, 0], [2, 2, 2, 2, 2], [0, 1], [2, 0, 0], [2, 2, 2, 2, 2, 2, 2, 2, 0], [2, 2, 2, 0, 0], [2, 2, 2, 2, 2, 2], [2, 2, 2, 2, 2, 2, 2, 2, 2, 2, 2, 2, 2, 2], [0, 0, 2, 2, 2, 2, 0, 2, 2, 2, 2, 2, 2, 0, 1, 0, 2, 2, 2, 2, 2, 2, 0, 2, 2, 2, 0, 2, 2, 0, 2, 0, 1, 0, 2, 2, 2, 2, 0, 0, 2, 2, 2, 2, 2]]
/-- of class c of vwCl the kind of field k: 0 int (or boolean), 1 long, 2 a reference -/
def xft (c k : Nat) : Nat := (xftT.getD c []).getD k 0
def xfv (E : xE) (H : xHp) (ft : Nat) (a k : Nat) : Value := match ft with
  | 0 => .int (H.2.2.1 a k)
  | 1 => .long (H.2.2.2.1 a k)
  | _ => va_rf ((H.2.2.2.2 a k).map (xad E))
def xce (E : xE) (H : xHp) (a : Nat) : va_E := match (H.2.1 a).1 with
  | 0 => .inl (E.2.1 0, (H.2.1 a).2, .inl (H.2.2.1 a))
  | 1 => .inl (E.2.1 1, (H.2.1 a).2, .inr (.inl (H.2.2.2.1 a)))
  | 2 => .inl (E.2.1 2, (H.2.1 a).2, .inl (H.2.2.1 a))
  | 3 => .inl (E.2.1 3, (H.2.1 a).2, .inr (.inr (.inr (.inr (fun j => (H.2.2.2.2 a j).map (xad E))))))
  | 4 => .inl (E.2.1 4, (H.2.1 a).2, .inr (.inr (.inr (.inr (fun j => (H.2.2.2.2 a j).map (xad E))))))
  | c + 5 => .inr (c, (List.range (H.2.1 a).2).map (fun k => xfv E H (xft c k) a k))
def xws (E : xE) (H : xHp) : va_W := (List.range H.1).map (fun a => (E.2.2.1 + a, xce E H a))
def xPic (E : xE) (H : xHp) (Hh : Heap) : Prop := va_P E.1 vwCl (xws E H) Hh ∧ H.1 ≤ 1000000
def xwid (j : Nat) : Int32 := [1, 250, 244, 248, 240, 224, 192, 128].getD j 0
def xlow (j : Nat) : Int64 := [0, -128, 0, -32768, -2147483648, -1152921504606846976, -1152921504606846976, -1152921504606846976].getD j 0
def xhig (j : Nat) : Int64 := [1, 127, 65535, 32767, 2147483647, 1152921504606846976, 1152921504606846976, 1152921504606846976].getD j 0
def xNW : List Cond := [.methodLinkNest RX11 11 yX0_init RX11, .methodLinkNest RX11 36 yX4_init RX11, .methodLinkNest RX1 17 yX2_init RX11, .methodLinkNest RX11 72 yX2_init RX11]
/-- what stands of the tables and of the old arrays, in a state with a heap -/
def xGl (E : xE) (z : xZ) (U : State) (Hh : Heap) : Prop :=
  va_K E.1 vwCl (xtys E) U ∧ (∀ w ∈ xNW, va_Nw w U) ∧ va_AO RX2 U ∧ va_AO RX6 U ∧
  (va_Z RX3 "WIDENS" "[I" (.ref (E.2.2.2 0)) (xA E) U Hh ∧ va_T .int (E.2.2.2 0) 8 (fun j => .int (xwid j)) (xA E) U Hh) ∧
  (va_Z RX3 "LOWEST" "[J" (.ref (E.2.2.2 1)) (xA E) U Hh ∧ va_T .long (E.2.2.2 1) 8 (fun j => .long (xlow j)) (xA E) U Hh) ∧
  (va_Z RX3 "HIGHEST" "[J" (.ref (E.2.2.2 2)) (xA E) U Hh ∧ va_T .long (E.2.2.2 2) 8 (fun j => .long (xhig j)) (xA E) U Hh) ∧
  (va_X (E.2.2.2 3) z.1 z.2 U Hh ∧ E.2.2.2 3 < E.2.2.1 ∧ E.2.2.2 3 < Hh.size)
theorem xNW_shape {w : Cond} (h : w ∈ xNW) : ∃ a i x b, w = .methodLinkNest a i x b := by
  simp only [xNW, List.mem_cons, List.not_mem_nil, or_false] at h
  rcases h with rfl | rfl | rfl | rfl <;> exact ⟨_, _, _, _, rfl⟩
theorem xGl.warm {E : xE} {z : xZ} {s U : State} {Hh H1 : Heap} (h : xGl E z s Hh) (hW : s.WarmedH U.vm) (hq : ∀ q : Nat, q < Hh.size → ¬ xA E q → H1[q]? = Hh[q]?) (hz : Hh.size ≤ H1.size) : xGl E z U H1 := by
  obtain ⟨h1, h2, h3, h4, ⟨h5, h6⟩, ⟨h7, h8⟩, ⟨h9, h10⟩, h11, h12, h13⟩ := h
  refine ⟨va_K.moved hW.alike h1, fun w hw => ?_, h3.moved hW.alike, h4.moved hW.alike, ⟨(h5.moved hW.alike).kept hq, (h6.moved hW.alike).kept hq⟩, ⟨(h7.moved hW.alike).kept hq, (h8.moved hW.alike).kept hq⟩, ⟨(h9.moved hW.alike).kept hq, (h10.moved hW.alike).kept hq⟩, (h11.moved hW.alike).kept (hq _ h13 (fun h => by simp only [xA] at h; omega)), h12, by omega⟩
  obtain ⟨a, i, x, b, rfl⟩ := xNW_shape hw
  exact (h2 _ hw).warmM hW
theorem xGl.same {E : xE} {z : xZ} {s U : State} {Hh : Heap} (h : xGl E z s Hh) (hv : s.vm = U.vm) : xGl E z U Hh := by
  have ha : s.vm.Alike U.vm := by rw [← hv]; exact Vm.Alike.refl _
  obtain ⟨h1, h2, h3, h4, ⟨h5, h6⟩, ⟨h7, h8⟩, ⟨h9, h10⟩, h11, h12, h13⟩ := h
  refine ⟨va_K.moved ha h1, fun w hw => ?_, h3.moved ha, h4.moved ha, ⟨h5.moved ha, h6.moved ha⟩, ⟨h7.moved ha, h8.moved ha⟩, ⟨h9.moved ha, h10.moved ha⟩, h11.moved ha, h12, h13⟩
  obtain ⟨a, i, x, b, rfl⟩ := xNW_shape hw
  exact (h2 _ hw).same rfl hv
/-! places in the world -/
theorem xws_at {E : xE} {H : xHp} {a : Nat} (h : a < H.1) : (xws E H)[a]? = some (E.2.2.1 + a, xce E H a) := by
  simp [xws, h]
theorem xws_some {E : xE} {H : xHp} {k : Nat} {q : Nat × va_E} (h : (xws E H)[k]? = some q) : k < H.1 ∧ q = (E.2.2.1 + k, xce E H k) := by
  simp only [xws, List.getElem?_map] at h
  by_cases hk : k < H.1
  · rw [List.getElem?_range hk] at h
    exact ⟨hk, (Option.some.inj h).symm⟩
  · rw [List.getElem?_eq_none (by simpa using Nat.le_of_not_lt hk)] at h
    cases h
theorem xws_D {E : xE} {H : xHp} : va_D (xA E) (xws E H) := by
  refine ⟨fun i j p q hi hj h => ?_, fun k q hk => ?_⟩
  · obtain ⟨_, rfl⟩ := xws_some hi
    obtain ⟨_, rfl⟩ := xws_some hj
    simp only at h
    omega
  · obtain ⟨_, rfl⟩ := xws_some hk
    simp only [xA]
    omega
theorem xws_set {E : xE} {H H' : xHp} {a : Nat} {x : va_E} (ha : a < H.1) (hn : H'.1 = H.1) (hx : xce E H' a = x) (ho : ∀ q, q ≠ a → q < H.1 → xce E H' q = xce E H q) : (xws E H).set a (E.2.2.1 + a, x) = xws E H' := by
  apply List.ext_getElem?
  intro i
  by_cases hi : i = a
  · subst hi
    rw [List.getElem?_set_self (by simpa [xws] using ha), xws_at (by rw [hn]; exact ha), hx]
  · rw [List.getElem?_set_ne (Ne.symm hi)]
    by_cases hl : i < H.1
    · rw [xws_at hl, xws_at (by rw [hn]; exact hl), ho i hi hl]
    · rw [List.getElem?_eq_none (by simp [xws]; omega), List.getElem?_eq_none (by simp [xws, hn]; omega)]
theorem xws_push {E : xE} {H H' : xHp} {x : va_E} (hn : H'.1 = H.1 + 1) (hx : xce E H' H.1 = x) (ho : ∀ q, q < H.1 → xce E H' q = xce E H q) : xws E H ++ [(E.2.2.1 + H.1, x)] = xws E H' := by
  apply List.ext_getElem?
  intro i
  by_cases hl : i < H.1
  · rw [List.getElem?_append_left (by simpa [xws] using hl), xws_at hl, xws_at (by omega), ho i hl]
  · rw [List.getElem?_append_right (by simp [xws]; omega)]
    have hlen : (xws E H).length = H.1 := by simp [xws]
    rw [hlen]
    by_cases hi : i = H.1
    · subst hi
      rw [Nat.sub_self, xws_at (by omega), hx]
      rfl
    · rw [List.getElem?_eq_none (by simp; omega), List.getElem?_eq_none (by simp [xws, hn]; omega)]
theorem xad_new {E : xE} {a : Nat} (h : a < 1000000) : xad E a = E.2.2.1 + a := by simp [xad, h]
theorem xtr_ref {E : xE} {a : Nat} (h : a < 1000000) : xtr E (.ref a) = .ref (E.2.2.1 + a) := by simp [xtr, xad, h]
theorem xtr_rf (E : xE) (r : Option Nat) : xtr E (va_rf r) = va_rf (r.map (xad E)) := by cases r <;> rfl
/-! locals -/
def xpr (E : xE) (L : List (Option Value)) : List (Nat × Value) := L.zipIdx.filterMap (fun q => q.1.map (fun v => (q.2, xtr E v)))
def xcl : Option Value → Option Value
  | some (.long _) => none
  | some (.double _) => none
  | o => o
def xset1 : List (Option Value) → Nat → Value → List (Option Value)
  | [], _, _ => []
  | _ :: t, 0, v => some v :: t
  | a :: t, 1, v => xcl a :: xset1 t 0 v
  | a :: t, i + 2, v => a :: xset1 t (i + 1) v
def xset2 : List (Option Value) → Nat → Value → List (Option Value)
  | [], _, _ => []
  | [_], _, _ => []
  | _ :: _ :: t, 0, v => some v :: none :: t
  | a :: b :: t, 1, v => xcl a :: xset2 (b :: t) 0 v
  | a :: b :: t, i + 2, v => a :: xset2 (b :: t) (i + 1) v
def xlv (E : xE) (nL : Nat) (L : List (Option Value)) (ls : Array Slot) : Prop := L.length = nL ∧ lv_has ls nL (xpr E L)
theorem xpr_mem {E : xE} {L : List (Option Value)} {i : Nat} {w : Value} : (i, w) ∈ xpr E L ↔ ∃ v, L[i]? = some (some v) ∧ w = xtr E v := by
  simp only [xpr, List.mem_filterMap, Option.map_eq_some_iff, Prod.mk.injEq]
  constructor
  · rintro ⟨⟨o, j⟩, hm, v, hv, rfl, rfl⟩
    have := List.mem_zipIdx_iff_getElem?.mp hm
    simp only at this hv
    exact ⟨v, by rw [this, hv], rfl⟩
  · rintro ⟨v, hv, rfl⟩
    exact ⟨(some v, i), List.mem_zipIdx_iff_getElem?.mpr hv, v, rfl, rfl, rfl⟩
theorem xlv_at {E : xE} {nL i : Nat} {L : List (Option Value)} {ls : Array Slot} {v : Value} (h : xlv E nL L ls) (hv : L[i]? = some (some v)) : ls[i]? = some (.val (xtr E v)) := h.2.2.2 (i, xtr E v) (xpr_mem.mpr ⟨v, hv, rfl⟩)
theorem xtr_cat (E : xE) (v : Value) : (xtr E v).category = v.category := by cases v <;> rfl
theorem xcl_some {o : Option Value} {v : Value} (h : xcl o = some v) : o = some v ∧ v.category = 1 := by
  cases o with
  | none => cases h
  | some w => cases w <;> simp_all [xcl, Value.category] <;> subst h <;> rfl
theorem xset1_len : ∀ (L : List (Option Value)) (i : Nat) (v : Value), (xset1 L i v).length = L.length
  | [], _, _ => rfl
  | _ :: t, 0, v => rfl
  | a :: t, 1, v => by simp [xset1, xset1_len t 0 v]
  | a :: t, i + 2, v => by simp [xset1, xset1_len t (i + 1) v]
theorem xset1_get : ∀ (L : List (Option Value)) (i : Nat) (v : Value) (j : Nat) (w : Value), (xset1 L i v)[j]? = some (some w) → (j = i ∧ w = v) ∨ (j ≠ i ∧ L[j]? = some (some w) ∧ (j + 1 = i → w.category = 1))
  | [], i, v, j, w, h => by simp [xset1] at h
  | a :: t, 0, v, j, w, h => by
    cases j with
    | zero => simp [xset1] at h; exact Or.inl ⟨rfl, h.symm⟩
    | succ j => simp only [xset1, List.getElem?_cons_succ] at h ⊢; exact Or.inr ⟨by omega, h, fun e => by omega⟩
  | a :: t, 1, v, j, w, h => by
    cases j with
    | zero =>
      simp only [xset1, List.getElem?_cons_zero, Option.some.injEq] at h ⊢
      obtain ⟨h1, h2⟩ := xcl_some h
      exact Or.inr ⟨by omega, by rw [h1], fun _ => h2⟩
    | succ j =>
      simp only [xset1, List.getElem?_cons_succ] at h ⊢
      rcases xset1_get t 0 v j w h with ⟨e, hw⟩ | ⟨e, hw, hc⟩
      · exact Or.inl ⟨by omega, hw⟩
      · exact Or.inr ⟨by omega, hw, fun e2 => by omega⟩
  | a :: t, i + 2, v, j, w, h => by
    cases j with
    | zero => simp only [xset1, List.getElem?_cons_zero] at h ⊢; exact Or.inr ⟨by omega, h, fun e => by omega⟩
    | succ j =>
      simp only [xset1, List.getElem?_cons_succ] at h ⊢
      rcases xset1_get t (i + 1) v j w h with ⟨e, hw⟩ | ⟨e, hw, hc⟩
      · exact Or.inl ⟨by omega, hw⟩
      · exact Or.inr ⟨by omega, hw, fun e2 => hc (by omega)⟩
theorem xset2_len : ∀ (L : List (Option Value)) (i : Nat) (v : Value), i + 1 < L.length → (xset2 L i v).length = L.length
  | [], _, _, h => by simp at h
  | [_], _, _, h => by simp at h
  | _ :: _ :: t, 0, v, _ => rfl
  | a :: b :: t, 1, v, h => by simp only [xset2, List.length_cons]; rw [xset2_len (b :: t) 0 v (by simp at h ⊢; omega)]; rfl
  | a :: b :: t, i + 2, v, h => by simp only [xset2, List.length_cons]; rw [xset2_len (b :: t) (i + 1) v (by simp at h ⊢; omega)]; rfl
theorem xset2_get : ∀ (L : List (Option Value)) (i : Nat) (v : Value) (j : Nat) (w : Value), (xset2 L i v)[j]? = some (some w) → (j = i ∧ w = v) ∨ (j ≠ i ∧ j ≠ i + 1 ∧ L[j]? = some (some w) ∧ (j + 1 = i → w.category = 1))
  | [], i, v, j, w, h => by simp [xset2] at h
  | [_], i, v, j, w, h => by simp [xset2] at h
  | a :: b :: t, 0, v, j, w, h => by
    cases j with
    | zero => simp [xset2] at h; exact Or.inl ⟨rfl, h.symm⟩
    | succ j =>
      cases j with
      | zero => simp [xset2] at h
      | succ j => simp only [xset2, List.getElem?_cons_succ] at h ⊢; exact Or.inr ⟨by omega, by omega, h, fun e => by omega⟩
  | a :: b :: t, 1, v, j, w, h => by
    cases j with
    | zero =>
      simp only [xset2, List.getElem?_cons_zero, Option.some.injEq] at h ⊢
      obtain ⟨h1, h2⟩ := xcl_some h
      exact Or.inr ⟨by omega, by omega, by rw [h1], fun _ => h2⟩
    | succ j =>
      rw [xset2, List.getElem?_cons_succ] at h
      rw [List.getElem?_cons_succ]
      rcases xset2_get (b :: t) 0 v j w h with ⟨e, hw⟩ | ⟨e, e', hw, hc⟩
      · exact Or.inl ⟨by omega, hw⟩
      · exact Or.inr ⟨by omega, by omega, hw, fun e2 => by omega⟩
  | a :: b :: t, i + 2, v, j, w, h => by
    cases j with
    | zero => simp only [xset2, List.getElem?_cons_zero] at h ⊢; exact Or.inr ⟨by omega, by omega, h, fun e => by omega⟩
    | succ j =>
      rw [xset2, List.getElem?_cons_succ] at h
      rw [List.getElem?_cons_succ]
      rcases xset2_get (b :: t) (i + 1) v j w h with ⟨e, hw⟩ | ⟨e, e', hw, hc⟩
      · exact Or.inl ⟨by omega, hw⟩
      · exact Or.inr ⟨by omega, by omega, hw, fun e2 => hc (by omega)⟩
theorem xlv_set1 {E : xE} {nL i : Nat} {L : List (Option Value)} {ls' : Array Slot} {v : Value} (hl : L.length = nL)
    (h : lv_has ls' nL ((i, xtr E v) :: (xpr E L).filter (fun q => !(q.1 == i) && !(q.1 + 1 == i && q.2.category == 2)))) : xlv E nL (xset1 L i v) ls' := by
  refine ⟨by rw [xset1_len, hl], h.1, h.2.1, fun q hq => ?_⟩
  obtain ⟨j, w⟩ := q
  obtain ⟨u, hu, rfl⟩ := xpr_mem.mp hq
  rcases xset1_get L i v j u hu with ⟨rfl, rfl⟩ | ⟨e, hw, hc⟩
  · exact h.2.2 _ List.mem_cons_self
  · refine h.2.2 _ (List.mem_cons_of_mem _ (List.mem_filter.mpr ⟨xpr_mem.mpr ⟨u, hw, rfl⟩, ?_⟩))
    simp only [xtr_cat]
    by_cases e2 : j + 1 = i
    · simp [e, hc e2]
    · simp [e, e2]
theorem xlv_set2 {E : xE} {nL i : Nat} {L : List (Option Value)} {ls' : Array Slot} {v : Value} (hl : L.length = nL) (hi : i + 1 < nL)
    (h : lv_has ls' nL ((i, xtr E v) :: (xpr E L).filter (fun q => !(q.1 == i) && (!(q.1 == i + 1) && !(q.1 + 1 == i && q.2.category == 2))))) : xlv E nL (xset2 L i v) ls' := by
  refine ⟨by rw [xset2_len _ _ _ (by omega), hl], h.1, h.2.1, fun q hq => ?_⟩
  obtain ⟨j, w⟩ := q
  obtain ⟨u, hu, rfl⟩ := xpr_mem.mp hq
  rcases xset2_get L i v j u hu with ⟨rfl, rfl⟩ | ⟨e, e', hw, hc⟩
  · exact h.2.2 _ List.mem_cons_self
  · refine h.2.2 _ (List.mem_cons_of_mem _ (List.mem_filter.mpr ⟨xpr_mem.mpr ⟨u, hw, rfl⟩, ?_⟩))
    simp only [xtr_cat]
    by_cases e2 : j + 1 = i
    · simp [e, e', hc e2]
    · simp [e, e', e2]
