/-! THE INVARIANT: what the class and the reference hold is one thing -/
/-- what a cell of a bank of kind b may have: the kind c (9 a name, 10 nothing), the number v -/
def okc (b c : Nat) (v : Int64) : Prop := (c ≤ 7 ∨ c = 9 ∨ c = 10) ∧ (b ≤ 7 → c = b) ∧ (c = 10 → v = 0) ∧ rnd c v = v
abbrev xSn : Type := Nat × (Nat → Nat) × (Nat → Int64)
/-- banks and cells -/
def IB (nb : Nat) (bk bz : Nat → Nat) (ck : Nat → Nat) (cn : Nat → Int64) (hi : Nat → Nat → Int32) (hl : Nat → Nat → Int64) : Prop :=
  nb ≤ 6 ∧ hi 1 4 = nI nb ∧ hi 90 1 = nI nb ∧
  (∀ b, b < nb → bk b ≤ 12 ∧ bz b ≤ 12 ∧ (11 ≤ bk b → bz b = 0) ∧ hi 2 b = nI (bk b) ∧ hi 91 b = nI (bk b) ∧ hi 5 b = nI (bz b) ∧ hi 92 b = nI (bz b)) ∧
  (∀ k, k < 12 * nb → hi 3 k = nI (ck k) ∧ hi 93 k = nI (ck k) ∧ hl 4 k = cn k ∧ hl 94 k = cn k ∧ okc (bk (k / 12)) (ck k) (cn k))
/-- views: base, from, step, count, kind; the chain of views down from it, the lowest one first; its bank -/
def IV (nb nv : Nat) (vb : Nat → Nat) (vf vs : Nat → Int) (vc vk : Nat → Nat) (ch : Nat → List Nat) (bo : Nat → Nat) (hi : Nat → Nat → Int32) : Prop :=
  nv ≤ 8 ∧ hi 6 8 = nI nv ∧ hi 90 6 = nI nv ∧
  ∀ v, v < nv → ((1 ≤ vc v ∧ vc v ≤ 12) ∧ vk v ≤ 8 ∧ (-20 ≤ vf v ∧ vf v ≤ 20) ∧ (-3 ≤ vs v ∧ vs v ≤ 3) ∧ (ch v).length ≤ 4 ∧ bo v < nb) ∧
    (hi 7 v = Int32.ofInt (vf v) ∧ hi 96 v = Int32.ofInt (vf v) ∧ hi 8 v = Int32.ofInt (vs v) ∧ hi 97 v = Int32.ofInt (vs v) ∧ hi 11 v = nI (vc v) ∧ hi 98 v = nI (vc v) ∧ hi 12 v = nI (vk v) ∧ hi 99 v = nI (vk v)) ∧
    (hi 9 v = nI (ch v).length ∧ hi 100 v = nI (ch v).length ∧ hi 13 v = nI (bo v) ∧ hi 95 v = nI (vb v)) ∧ (∀ k u, (ch v)[k]? = some u → hi 10 (4 * v + k) = nI u) ∧
    ((vb v < nb ∧ ch v = [v] ∧ bo v = vb v) ∨ ∃ u, u < v ∧ vb v = 10 + u ∧ ch v = ch u ++ [v] ∧ bo v = bo u)
/-- what was told last -/
def IT (tk : Nat) (tn : Int64) (hi : Nat → Nat → Int32) (hl : Nat → Nat → Int64) : Prop :=
  (tk ≤ 7 ∨ tk = 9 ∨ tk = 10) ∧ hi 85 0 = nI tk ∧ hl 85 1 = tn ∧ hi 90 13 = (if tk = 10 then -20 else nI tk) ∧ hl 90 14 = tn
def okcs (nb : Nat) (bk : Nat → Nat) (s : xSn) : Prop := s.1 ≤ nb ∧ ∀ j, j < 12 * s.1 → okc (bk (j / 12)) (s.2.1 j) (s.2.2 j)
/-- an image's cells at t -/
def imgAt (t : Nat) (s : xSn) (hi : Nat → Nat → Int32) (hl : Nat → Nat → Int64) : Prop := hi t 2 = nI s.1 ∧ ∀ j, j < 12 * s.1 → hi (t + 1) j = nI (s.2.1 j) ∧ hl (t + 2) j = s.2.2 j
/-- the same in two rows of the reference, from a place on -/
def rowAt (a b lo : Nat) (s : xSn) (hi : Nat → Nat → Int32) (hl : Nat → Nat → Int64) : Prop := ∀ j, j < 12 * s.1 → hi a (lo + j) = nI (s.2.1 j) ∧ hl b (lo + j) = s.2.2 j
def isI (t : Nat) : Prop := ∃ q, q ≤ 10 ∧ t = 43 + 3 * q
/-- the history's eleven images: one is marked, ten lie in the ring -/
def RG (r : xRr) : Prop := isI r.1 ∧ (∀ j, j < 10 → ∃ t, r.2 j = some t ∧ isI t ∧ t ≠ r.1) ∧ ∀ i j, i < 10 → j < 10 → r.2 i = r.2 j → i = j
/-- what may be undone, the oldest first -/
def IU (nb : Nat) (bk : Nat → Nat) (P : List xSn) (nx : Nat) (hi : Nat → Nat → Int32) (hl : Nat → Nat → Int64) (r : xRr) : Prop :=
  P.length ≤ 10 ∧ nx < 10 ∧ hi 41 2 = nI nx ∧ hi 41 3 = nI P.length ∧ hi 90 15 = nI P.length ∧ RG r ∧
  ∀ i s, P[i]? = some s → okcs nb bk s ∧ (∃ t, r.2 ((nx + 10 - P.length + i) % 10) = some t ∧ imgAt t s hi hl) ∧ hi 101 i = nI s.1 ∧ rowAt 102 103 (72 * i) s hi hl
/-- the two images -/
def IG (nb : Nat) (bk : Nat → Nat) (G : Nat → Option xSn) (hi : Nat → Nat → Int32) (hl : Nat → Nat → Int64) : Prop :=
  ∀ j, j < 2 → match G j with
    | none => hi (77 + 3 * j) 2 = -20 ∧ hi 106 j = -20
    | some s => okcs nb bk s ∧ imgAt (77 + 3 * j) s hi hl ∧ hi 106 j = nI s.1 ∧ rowAt 104 105 (72 * j) s hi hl
/-- turns that are open behind j lines -/
def opn (lp : Nat → Nat) : Nat → Nat
  | 0 => 0
  | j + 1 => if lp (5 * j) = 5 then opn lp j + 1 else if lp (5 * j) = 6 then opn lp j - 1 else opn lp j
/-- the program: line i is lp (5 i) .. lp (5 i + 4) -/
def IL (nv ln : Nat) (lp : Nat → Nat) (hi : Nat → Nat → Int32) : Prop :=
  ln ≤ 16 ∧ hi 30 2 = nI ln ∧ hi 90 22 = nI ln ∧ hi 30 3 = nI (opn lp ln) ∧ (∀ k, k < 5 * ln → hi 31 k = nI (lp k) ∧ hi 107 k = nI (lp k)) ∧
  (∀ i, i < ln → lp (5 * i) ≤ 6 ∧ (lp (5 * i) < 5 → lp (5 * i + 1) < nv ∧ lp (5 * i + 3) < nv ∧ lp (5 * i + 2) ≤ 13 ∧ lp (5 * i + 4) ≤ 13) ∧ (lp (5 * i) = 5 → lp (5 * i + 1) ≤ 9 ∧ lp (5 * i + 2) = 0 ∧ lp (5 * i + 3) = 0 ∧ lp (5 * i + 4) = 0) ∧ (lp (5 * i) = 6 → 0 < opn lp i ∧ lp (5 * i + 1) = 0 ∧ lp (5 * i + 2) = 0 ∧ lp (5 * i + 3) = 0 ∧ lp (5 * i + 4) = 0)) ∧
  ∀ i, i ≤ ln → opn lp i ≤ 3
def IM (md mt : Nat → Nat) (hi : Nat → Nat → Int32) : Prop := ∀ j, j < 7 → md j ≤ 2 ∧ mt j ≤ 60 ∧ hi 87 j = nI (md j) ∧ hi 108 j = nI (md j) ∧ hi 88 j = nI (mt j) ∧ hi 109 j = nI (mt j)
/-- what a try comes to at a bank of a kind: 0 well, 1 gone, 2 bare, 3 unlike -/
def came (kind att : Nat) : Nat := if kind = 11 then 1 else if kind = 12 then 2 else if (xwell.getD att 0).toBitVec.getLsbD kind then 0 else 3
/-- the kinds that are left, as a number of bits -/
def lft (sn : Nat) (st sc : Nat → Nat) : Nat := ((List.range 13).map fun kind => if (List.range sn).all (fun j => came kind (st j) == sc j) then 2 ^ kind else 0).sum
def IS (sn : Nat) (st sc : Nat → Nat) (hi : Nat → Nat → Int32) : Prop :=
  sn ≤ 6 ∧ hi 83 2 = nI sn ∧ hi 90 26 = nI sn ∧ hi 83 1 = nI (lft sn st sc) ∧ (∀ j, j < 26 → hi 84 j = xwell.getD j 0) ∧ ∀ j, j < sn → st j ≤ 25 ∧ sc j ≤ 3 ∧ hi 110 j = nI (st j) ∧ hi 111 j = nI (sc j)
/-- the reference's table of parted sets -/
def xsetOf (j : Nat) : Nat := ((List.range 13).map fun kind => if came kind (j / 4) == j % 4 then 2 ^ kind else 0).sum
def ones13 (s : Nat) : Nat := ((List.range 13).map fun k => s / 2 ^ k % 2).sum
/-- tries needed behind a try at the worst; 99: it parts none -/
def xwb (part : Nat → Nat) (set att : Nat) : Nat := if (List.range 4).any (fun q => (set &&& xsetOf (4 * att + q)) == set) then 99 else (List.range 4).foldl (fun w q => if part (set &&& xsetOf (4 * att + q)) > w then part (set &&& xsetOf (4 * att + q)) else w) 0
def ptF : Nat → Nat → Nat
  | 0, _ => 0
  | n + 1, s => if ones13 s < 2 then 0 else (List.range 26).foldl (fun m att => if 1 + xwb (ptF n) s att < m then 1 + xwb (ptF n) s att else m) 99
def pt (s : Nat) : Nat := ptF 14 s
def IP (hi : Nat → Nat → Int32) : Prop :=
  (hi 90 29 = 0 ∧ ∀ j, j < 104 → hi 121 j = 0) ∨ (hi 90 29 = 1 ∧ (∀ j, j < 104 → hi 121 j = nI (xsetOf j)) ∧ ∀ s, s < 8192 → hi 112 s = nI (pt s))
def xInv : xJ := fun hi hl r => ∃ nb bk bz ck cn nv vb vf vs vc vk ch bo tk tn P nx G ln lp md mt sn st sc,
  IB nb bk bz ck cn hi hl ∧ IV nb nv vb vf vs vc vk ch bo hi ∧ IT tk tn hi hl ∧ IU nb bk P nx hi hl r ∧ IG nb bk G hi hl ∧ IL nv ln lp hi ∧ IM md mt hi ∧ IS sn st sc hi ∧ IP hi
/-! what doesn't change keeps its part -/
def sameI (X : List Nat) (hi hi' : Nat → Nat → Int32) : Prop := ∀ a, a ∉ X → hi' a = hi a
def sameL (X : List Nat) (hl hl' : Nat → Nat → Int64) : Prop := ∀ a, a ∉ X → hl' a = hl a
theorem IB.tr {nb : Nat} {bk bz ck : Nat → Nat} {cn : Nat → Int64} {hi hi' : Nat → Nat → Int32} {hl hl' : Nat → Nat → Int64} (h : IB nb bk bz ck cn hi hl) (hr : ∀ a, a ∈ [1, 2, 3, 5, 91, 92, 93] → hi' a = hi a) (hp : hi' 90 1 = hi 90 1) (hq : ∀ a, a ∈ [4, 94] → hl' a = hl a) : IB nb bk bz ck cn hi' hl' := by
  unfold IB at h ⊢
  rw [hr 1 (by decide), hr 2 (by decide), hr 3 (by decide), hr 5 (by decide), hr 91 (by decide), hr 92 (by decide), hr 93 (by decide), hp, hq 4 (by decide), hq 94 (by decide)]
  exact h
theorem IV.tr {nb nv : Nat} {vb : Nat → Nat} {vf vs : Nat → Int} {vc vk : Nat → Nat} {ch : Nat → List Nat} {bo : Nat → Nat} {hi hi' : Nat → Nat → Int32} (h : IV nb nv vb vf vs vc vk ch bo hi) (hr : ∀ a, a ∈ [6, 7, 8, 9, 10, 11, 12, 13, 95, 96, 97, 98, 99, 100] → hi' a = hi a) (hp : hi' 90 6 = hi 90 6) : IV nb nv vb vf vs vc vk ch bo hi' := by
  unfold IV at h ⊢
  rw [hr 6 (by decide), hr 7 (by decide), hr 8 (by decide), hr 9 (by decide), hr 10 (by decide), hr 11 (by decide), hr 12 (by decide), hr 13 (by decide), hr 95 (by decide), hr 96 (by decide), hr 97 (by decide), hr 98 (by decide), hr 99 (by decide), hr 100 (by decide), hp]
  exact h
theorem IT.tr {tk : Nat} {tn : Int64} {hi hi' : Nat → Nat → Int32} {hl hl' : Nat → Nat → Int64} (h : IT tk tn hi hl) (h1 : hi' 85 = hi 85) (h2 : hl' 85 = hl 85) (h3 : hi' 90 13 = hi 90 13) (h4 : hl' 90 14 = hl 90 14) : IT tk tn hi' hl' := by
  unfold IT at h ⊢
  rw [h1, h2, h3, h4]
  exact h
theorem imgAt.tr {t : Nat} {s : xSn} {hi hi' : Nat → Nat → Int32} {hl hl' : Nat → Nat → Int64} (h : imgAt t s hi hl) (h1 : hi' t = hi t) (h2 : hi' (t + 1) = hi (t + 1)) (h3 : hl' (t + 2) = hl (t + 2)) : imgAt t s hi' hl' := by
  unfold imgAt at h ⊢
  rw [h1, h2, h3]
  exact h
theorem rowAt.tr {a b lo : Nat} {s : xSn} {hi hi' : Nat → Nat → Int32} {hl hl' : Nat → Nat → Int64} (h : rowAt a b lo s hi hl) (h1 : hi' a = hi a) (h2 : hl' b = hl b) : rowAt a b lo s hi' hl' := by
  unfold rowAt at h ⊢
  rw [h1, h2]
  exact h
theorem isI.rng {t : Nat} (h : isI t) : 43 ≤ t ∧ t ≤ 73 := by
  obtain ⟨q, h1, rfl⟩ := h
  omega
theorem IU.tr {nb : Nat} {bk : Nat → Nat} {P : List xSn} {nx : Nat} {hi hi' : Nat → Nat → Int32} {hl hl' : Nat → Nat → Int64} {r : xRr} (h : IU nb bk P nx hi hl r) (hr : ∀ a, 41 ≤ a → a ≤ 75 → hi' a = hi a) (hr2 : ∀ a, a ∈ [101, 102] → hi' a = hi a) (hp : hi' 90 15 = hi 90 15) (hq : ∀ a, 43 ≤ a → a ≤ 75 → hl' a = hl a) (hq2 : hl' 103 = hl 103) : IU nb bk P nx hi' hl' r := by
  obtain ⟨h1, h2, h3, h4, h5, h6, h7⟩ := h
  refine ⟨h1, h2, by rw [hr 41 (by omega) (by omega)]; exact h3, by rw [hr 41 (by omega) (by omega)]; exact h4, by rw [hp]; exact h5, h6, fun i s hs => ?_⟩
  obtain ⟨g1, ⟨t, g2, g3⟩, g4, g5⟩ := h7 i s hs
  obtain ⟨t', e1, e2, -⟩ := h6.2.1 _ (Nat.mod_lt _ (by decide : 0 < 10))
  rw [g2] at e1
  cases e1
  have := e2.rng
  exact ⟨g1, ⟨t, g2, g3.tr (hr _ (by omega) (by omega)) (hr _ (by omega) (by omega)) (hq _ (by omega) (by omega))⟩, by rw [hr2 101 (by decide)]; exact g4, g5.tr (hr2 102 (by decide)) hq2⟩
theorem IG.tr {nb : Nat} {bk : Nat → Nat} {G : Nat → Option xSn} {hi hi' : Nat → Nat → Int32} {hl hl' : Nat → Nat → Int64} (h : IG nb bk G hi hl) (hr : ∀ a, a ∈ [77, 78, 80, 81, 104, 106] → hi' a = hi a) (hq : ∀ a, a ∈ [79, 82, 105] → hl' a = hl a) : IG nb bk G hi' hl' := by
  intro j hj
  have h1 := h j hj
  have ej : hi' (77 + 3 * j) = hi (77 + 3 * j) ∧ hi' (77 + 3 * j + 1) = hi (77 + 3 * j + 1) ∧ hl' (77 + 3 * j + 2) = hl (77 + 3 * j + 2) := by
    rcases (show j = 0 ∨ j = 1 by omega) with rfl | rfl
    · exact ⟨hr 77 (by decide), hr 78 (by decide), hq 79 (by decide)⟩
    · exact ⟨hr 80 (by decide), hr 81 (by decide), hq 82 (by decide)⟩
  cases hG : G j with
  | none =>
    rw [hG] at h1
    simp only at h1 ⊢
    rw [ej.1, hr 106 (by decide)]
    exact h1
  | some s =>
    rw [hG] at h1
    simp only at h1 ⊢
    obtain ⟨g1, g2, g3, g4⟩ := h1
    exact ⟨g1, g2.tr ej.1 ej.2.1 ej.2.2, by rw [hr 106 (by decide)]; exact g3, g4.tr (hr 104 (by decide)) (hq 105 (by decide))⟩
theorem IL.tr {nv ln : Nat} {lp : Nat → Nat} {hi hi' : Nat → Nat → Int32} (h : IL nv ln lp hi) (h1 : hi' 30 = hi 30) (h2 : hi' 31 = hi 31) (h3 : hi' 107 = hi 107) (hp : hi' 90 22 = hi 90 22) : IL nv ln lp hi' := by
  unfold IL at h ⊢
  rw [h1, h2, h3, hp]
  exact h
theorem IM.tr {md mt : Nat → Nat} {hi hi' : Nat → Nat → Int32} (h : IM md mt hi) (hr : ∀ a, a ∈ [87, 88, 108, 109] → hi' a = hi a) : IM md mt hi' := by
  unfold IM at h ⊢
  rw [hr 87 (by decide), hr 88 (by decide), hr 108 (by decide), hr 109 (by decide)]
  exact h
theorem IS.tr {sn : Nat} {st sc : Nat → Nat} {hi hi' : Nat → Nat → Int32} (h : IS sn st sc hi) (hr : ∀ a, a ∈ [83, 84, 110, 111] → hi' a = hi a) (hp : hi' 90 26 = hi 90 26) : IS sn st sc hi' := by
  unfold IS at h ⊢
  rw [hr 83 (by decide), hr 84 (by decide), hr 110 (by decide), hr 111 (by decide), hp]
  exact h
theorem IP.tr {hi hi' : Nat → Nat → Int32} (h : IP hi) (h1 : hi' 121 = hi 121) (h2 : hi' 112 = hi 112) (hp : hi' 90 29 = hi 90 29) : IP hi' := by
  unfold IP at h ⊢
  rw [h1, h2, hp]
  exact h
