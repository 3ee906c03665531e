section XG
variable {w : xWt} {b : xBd} {z : xZ} {k q pc pc' a idx ci j : Nat} {L : List (Option Value)} {S : List Value} {o : xOut} {n N : Nat} {sh : Nat → Nat × Nat} {hi : Nat → Nat → Int32} {hl : Nat → Nat → Int64} {hr : Nat → Nat → Option Nat} {i : Int32}
theorem x_iald (hd : decode w.2.1 pc = .ok (.iaload, 1)) (ha : a < n) (hs : sh a = (0, N)) (hin : vp_in i N) (hp : pc + 1 = pc') (kk : xR w b z k q pc' L (.int (hi a i.toNatClampNeg) :: S) (n, sh, hi, hl, hr) o) : xR w b z k q pc L (.int i :: .ref a :: S) (n, sh, hi, hl, hr) o := by
  intro p l e R s m args below meth c E Q Hh locs ls hC hE hR hL
  subst hp
  have hnn : n ≤ 1000000 := hR.1.2
  show W p l e R s m args below meth c Hh locs k q Q (F0 m pc ls (.int i :: xtr E (.ref a) :: S.map (xtr E)))
  rw [xtr_ref (by omega)]
  exact va_iald (D := E.1) (cl := vwCl) (tys := xtys E) (ws := xws E (n, sh, hi, hl, hr)) hC.1 hC.2.1 hC.2.2.2.2.2.1.1 hR.1.1 a 0 ((xws_at (H := (n, sh, hi, hl, hr)) ha).trans (by simp only [xce, hs])) rfl hin hd (kk p l e R s m args below meth c E Q Hh locs ls hC hE hR hL)
theorem x_lald (hd : decode w.2.1 pc = .ok (.laload, 1)) (ha : a < n) (hs : sh a = (1, N)) (hin : vp_in i N) (hp : pc + 1 = pc') (kk : xR w b z k q pc' L (.long (hl a i.toNatClampNeg) :: S) (n, sh, hi, hl, hr) o) : xR w b z k q pc L (.int i :: .ref a :: S) (n, sh, hi, hl, hr) o := by
  intro p l e R s m args below meth c E Q Hh locs ls hC hE hR hL
  subst hp
  have hnn : n ≤ 1000000 := hR.1.2
  show W p l e R s m args below meth c Hh locs k q Q (F0 m pc ls (.int i :: xtr E (.ref a) :: S.map (xtr E)))
  rw [xtr_ref (by omega)]
  exact va_lald (D := E.1) (cl := vwCl) (tys := xtys E) (ws := xws E (n, sh, hi, hl, hr)) hC.1 hC.2.1 hC.2.2.2.2.2.1.1 hR.1.1 a 1 ((xws_at (H := (n, sh, hi, hl, hr)) ha).trans (by simp only [xce, hs])) rfl hin hd (kk p l e R s m args below meth c E Q Hh locs ls hC hE hR hL)
theorem x_bald (hd : decode w.2.1 pc = .ok (.baload, 1)) (ha : a < n) (hs : sh a = (2, N)) (hin : vp_in i N) (hp : pc + 1 = pc') (kk : xR w b z k q pc' L (.int (hi a i.toNatClampNeg) :: S) (n, sh, hi, hl, hr) o) : xR w b z k q pc L (.int i :: .ref a :: S) (n, sh, hi, hl, hr) o := by
  intro p l e R s m args below meth c E Q Hh locs ls hC hE hR hL
  subst hp
  have hnn : n ≤ 1000000 := hR.1.2
  show W p l e R s m args below meth c Hh locs k q Q (F0 m pc ls (.int i :: xtr E (.ref a) :: S.map (xtr E)))
  rw [xtr_ref (by omega)]
  exact va_bald (D := E.1) (cl := vwCl) (tys := xtys E) (ws := xws E (n, sh, hi, hl, hr)) hC.1 hC.2.1 hC.2.2.2.2.2.1.1 hR.1.1 a 2 ((xws_at (H := (n, sh, hi, hl, hr)) ha).trans (by simp only [xce, hs])) rfl hin hd (kk p l e R s m args below meth c E Q Hh locs ls hC hE hR hL)
theorem x_aald3 {t : Nat} (hd : decode w.2.1 pc = .ok (.aaload, 1)) (ha : a < n) (hs : sh a = (3, N)) (hin : vp_in i N) (hv : hr a i.toNatClampNeg = some t) (hp : pc + 1 = pc') (kk : xR w b z k q pc' L (.ref t :: S) (n, sh, hi, hl, hr) o) : xR w b z k q pc L (.int i :: .ref a :: S) (n, sh, hi, hl, hr) o := by
  intro p l e R s m args below meth c E Q Hh locs ls hC hE hR hL
  subst hp
  have hnn : n ≤ 1000000 := hR.1.2
  have h1 := (kk p l e R s m args below meth c E Q Hh locs ls hC hE hR hL)
  show W p l e R s m args below meth c Hh locs k q Q (F0 m pc ls (.int i :: xtr E (.ref a) :: S.map (xtr E)))
  rw [xtr_ref (by omega)]
  refine va_aldq (D := E.1) (cl := vwCl) (tys := xtys E) (ws := xws E (n, sh, hi, hl, hr)) (C := RX2) hC.1 hC.2.1 hC.2.2.2.2.2.1.1 hR.1.1 a 3 ((xws_at (H := (n, sh, hi, hl, hr)) ha).trans (by simp only [xce, hs]; rfl)) rfl hin hd ?_
  have e1 : va_rf (Option.map (xad E) (hr a i.toNatClampNeg)) = xtr E (.ref t) := by rw [hv]; rfl
  show W p l e R s m args below meth c Hh locs k q Q (F0 m (pc + 1) ls (va_rf (Option.map (xad E) (hr a i.toNatClampNeg)) :: S.map (xtr E)))
  rw [e1]
  exact h1
theorem x_aald4 {t : Nat} (hd : decode w.2.1 pc = .ok (.aaload, 1)) (ha : a < n) (hs : sh a = (4, N)) (hin : vp_in i N) (hv : hr a i.toNatClampNeg = some t) (hp : pc + 1 = pc') (kk : xR w b z k q pc' L (.ref t :: S) (n, sh, hi, hl, hr) o) : xR w b z k q pc L (.int i :: .ref a :: S) (n, sh, hi, hl, hr) o := by
  intro p l e R s m args below meth c E Q Hh locs ls hC hE hR hL
  subst hp
  have hnn : n ≤ 1000000 := hR.1.2
  have h1 := (kk p l e R s m args below meth c E Q Hh locs ls hC hE hR hL)
  show W p l e R s m args below meth c Hh locs k q Q (F0 m pc ls (.int i :: xtr E (.ref a) :: S.map (xtr E)))
  rw [xtr_ref (by omega)]
  refine va_aldq (D := E.1) (cl := vwCl) (tys := xtys E) (ws := xws E (n, sh, hi, hl, hr)) (C := RX6) hC.1 hC.2.1 hC.2.2.2.2.2.1.1 hR.1.1 a 4 ((xws_at (H := (n, sh, hi, hl, hr)) ha).trans (by simp only [xce, hs]; rfl)) rfl hin hd ?_
  have e1 : va_rf (Option.map (xad E) (hr a i.toNatClampNeg)) = xtr E (.ref t) := by rw [hv]; rfl
  show W p l e R s m args below meth c Hh locs k q Q (F0 m (pc + 1) ls (va_rf (Option.map (xad E) (hr a i.toNatClampNeg)) :: S.map (xtr E)))
  rw [e1]
  exact h1
theorem x_iast {x : Int32} (hd : decode w.2.1 pc = .ok (.iastore, 1)) (ha : a < n) (hs : sh a = (0, N)) (hin : vp_in i N) (hp : pc + 1 = pc') (kk : xR w b z k q pc' L S (n, sh, xu hi a i.toNatClampNeg x, hl, hr) o) : xR w b z k q pc L (.int x :: .int i :: .ref a :: S) (n, sh, hi, hl, hr) o := by
  intro p l e R s m args below meth c E Q Hh locs ls hC hE hR hL
  subst hp
  have hnn : n ≤ 1000000 := hR.1.2
  show W p l e R s m args below meth c Hh locs k q Q (F0 m pc ls (.int x :: .int i :: xtr E (.ref a) :: S.map (xtr E)))
  rw [xtr_ref (by omega)]
  refine va_iast (D := E.1) (cl := vwCl) (tys := xtys E) (ws := xws E (n, sh, hi, hl, hr)) hC.1 hC.2.1 hC.2.2.2.2.2.1.1 hR.1.1 xws_D hR.2.1 a 0 ((xws_at (H := (n, sh, hi, hl, hr)) ha).trans (by simp only [xce, hs]; rfl)) rfl hin hd (fun H1 locs1 hP1 _ hS1 => ?_)
  have hset := xws_set (E := E) (H := (n, sh, hi, hl, hr)) (H' := (n, sh, xu hi a i.toNatClampNeg x, hl, hr)) ha rfl rfl (fun x hx _ => xce_congr rfl (xu_ne _ _ _ hx) rfl rfl)
  refine kk p l e R s m args below meth c E Q H1 locs1 ls hC hE ⟨⟨?_, hnn⟩, hS1, hR.2.2⟩ hL
  rw [← hset]
  simp only [xce, hs, xu_self]
  exact hP1
theorem x_last {x : Int64} (hd : decode w.2.1 pc = .ok (.lastore, 1)) (ha : a < n) (hs : sh a = (1, N)) (hin : vp_in i N) (hp : pc + 1 = pc') (kk : xR w b z k q pc' L S (n, sh, hi, xu hl a i.toNatClampNeg x, hr) o) : xR w b z k q pc L (.long x :: .int i :: .ref a :: S) (n, sh, hi, hl, hr) o := by
  intro p l e R s m args below meth c E Q Hh locs ls hC hE hR hL
  subst hp
  have hnn : n ≤ 1000000 := hR.1.2
  show W p l e R s m args below meth c Hh locs k q Q (F0 m pc ls (.long x :: .int i :: xtr E (.ref a) :: S.map (xtr E)))
  rw [xtr_ref (by omega)]
  refine va_last (D := E.1) (cl := vwCl) (tys := xtys E) (ws := xws E (n, sh, hi, hl, hr)) hC.1 hC.2.1 hC.2.2.2.2.2.1.1 hR.1.1 xws_D hR.2.1 a 1 ((xws_at (H := (n, sh, hi, hl, hr)) ha).trans (by simp only [xce, hs]; rfl)) rfl hin hd (fun H1 locs1 hP1 _ hS1 => ?_)
  have hset := xws_set (E := E) (H := (n, sh, hi, hl, hr)) (H' := (n, sh, hi, xu hl a i.toNatClampNeg x, hr)) ha rfl rfl (fun x hx _ => xce_congr rfl rfl (xu_ne _ _ _ hx) rfl)
  refine kk p l e R s m args below meth c E Q H1 locs1 ls hC hE ⟨⟨?_, hnn⟩, hS1, hR.2.2⟩ hL
  rw [← hset]
  simp only [xce, hs, xu_self]
  exact hP1
theorem x_bast {x : Int32} (hd : decode w.2.1 pc = .ok (.bastore, 1)) (ha : a < n) (hs : sh a = (2, N)) (hin : vp_in i N) (hp : pc + 1 = pc') (kk : xR w b z k q pc' L S (n, sh, xu hi a i.toNatClampNeg (vp_nar .byte x), hl, hr) o) : xR w b z k q pc L (.int x :: .int i :: .ref a :: S) (n, sh, hi, hl, hr) o := by
  intro p l e R s m args below meth c E Q Hh locs ls hC hE hR hL
  subst hp
  have hnn : n ≤ 1000000 := hR.1.2
  show W p l e R s m args below meth c Hh locs k q Q (F0 m pc ls (.int x :: .int i :: xtr E (.ref a) :: S.map (xtr E)))
  rw [xtr_ref (by omega)]
  refine va_bast (D := E.1) (cl := vwCl) (tys := xtys E) (ws := xws E (n, sh, hi, hl, hr)) hC.1 hC.2.1 hC.2.2.2.2.2.1.1 hR.1.1 xws_D hR.2.1 a 2 ((xws_at (H := (n, sh, hi, hl, hr)) ha).trans (by simp only [xce, hs]; rfl)) rfl hin hd (fun H1 locs1 hP1 _ hS1 => ?_)
  have hset := xws_set (E := E) (H := (n, sh, hi, hl, hr)) (H' := (n, sh, xu hi a i.toNatClampNeg (vp_nar .byte x), hl, hr)) ha rfl rfl (fun x hx _ => xce_congr rfl (xu_ne _ _ _ hx) rfl rfl)
  refine kk p l e R s m args below meth c E Q H1 locs1 ls hC hE ⟨⟨?_, hnn⟩, hS1, hR.2.2⟩ hL
  rw [← hset]
  simp only [xce, hs, xu_self]
  exact hP1
theorem x_aast3 {x : Nat} (hd : decode w.2.1 pc = .ok (.aastore, 1)) (ha : a < n) (hs : sh a = (3, N)) (hin : vp_in i N) (hx : x < n) (hsx : sh x = (2 + 5, xnf 2)) (hp : pc + 1 = pc') (kk : xR w b z k q pc' L S (n, sh, hi, hl, xu hr a i.toNatClampNeg (some x)) o) : xR w b z k q pc L (.ref x :: .int i :: .ref a :: S) (n, sh, hi, hl, hr) o := by
  intro p l e R s m args below meth c E Q Hh locs ls hC hE hR hL
  subst hp
  have hnn : n ≤ 1000000 := hR.1.2
  show W p l e R s m args below meth c Hh locs k q Q (F0 m pc ls (xtr E (.ref x) :: .int i :: xtr E (.ref a) :: S.map (xtr E)))
  rw [xtr_ref (by omega), xtr_ref (by omega)]
  refine va_astq (D := E.1) (cl := vwCl) (tys := xtys E) (ws := xws E (n, sh, hi, hl, hr)) (r := (RX2, TX2, xnf 2)) hC.1 hC.2.1 hC.2.2.2.2.2.1.1 hR.1.1 xws_D hR.2.1 a 3 x 2 ((xws_at (H := (n, sh, hi, hl, hr)) ha).trans (by simp only [xce, hs]; rfl)) rfl ((xws_at (H := (n, sh, hi, hl, hr)) hx).trans (by rw [xce_obj (H := (n, sh, hi, hl, hr)) hsx])) rfl hin hd (fun H1 locs1 hP1 _ hS1 => ?_)
  have hset := xws_set (E := E) (H := (n, sh, hi, hl, hr)) (H' := (n, sh, hi, hl, xu hr a i.toNatClampNeg (some x))) ha rfl rfl (fun x hx _ => xce_congr rfl rfl rfl (xu_ne _ _ _ hx))
  refine kk p l e R s m args below meth c E Q H1 locs1 ls hC hE ⟨⟨?_, hnn⟩, hS1, hR.2.2⟩ hL
  rw [← hset]
  simp only [xce, hs, xu_self]
  have e1 : (fun j => Option.map (xad E) (if j = i.toNatClampNeg then some x else hr a j)) = va_up (fun j => Option.map (xad E) (hr a j)) i.toNatClampNeg (some (E.2.2.1 + x)) := by
    funext j
    by_cases hj : j = i.toNatClampNeg
    · simp [hj, va_up, xad_new (E := E) (show x < 1000000 by omega)]
    · simp [hj, va_up]
  rw [e1]
  exact hP1
theorem x_aast4 {x : Nat} (hd : decode w.2.1 pc = .ok (.aastore, 1)) (ha : a < n) (hs : sh a = (4, N)) (hin : vp_in i N) (hx : x < n) (hsx : sh x = (5 + 5, xnf 5)) (hp : pc + 1 = pc') (kk : xR w b z k q pc' L S (n, sh, hi, hl, xu hr a i.toNatClampNeg (some x)) o) : xR w b z k q pc L (.ref x :: .int i :: .ref a :: S) (n, sh, hi, hl, hr) o := by
  intro p l e R s m args below meth c E Q Hh locs ls hC hE hR hL
  subst hp
  have hnn : n ≤ 1000000 := hR.1.2
  show W p l e R s m args below meth c Hh locs k q Q (F0 m pc ls (xtr E (.ref x) :: .int i :: xtr E (.ref a) :: S.map (xtr E)))
  rw [xtr_ref (by omega), xtr_ref (by omega)]
  refine va_astq (D := E.1) (cl := vwCl) (tys := xtys E) (ws := xws E (n, sh, hi, hl, hr)) (r := (RX6, TX6, xnf 5)) hC.1 hC.2.1 hC.2.2.2.2.2.1.1 hR.1.1 xws_D hR.2.1 a 4 x 5 ((xws_at (H := (n, sh, hi, hl, hr)) ha).trans (by simp only [xce, hs]; rfl)) rfl ((xws_at (H := (n, sh, hi, hl, hr)) hx).trans (by rw [xce_obj (H := (n, sh, hi, hl, hr)) hsx])) rfl hin hd (fun H1 locs1 hP1 _ hS1 => ?_)
  have hset := xws_set (E := E) (H := (n, sh, hi, hl, hr)) (H' := (n, sh, hi, hl, xu hr a i.toNatClampNeg (some x))) ha rfl rfl (fun x hx _ => xce_congr rfl rfl rfl (xu_ne _ _ _ hx))
  refine kk p l e R s m args below meth c E Q H1 locs1 ls hC hE ⟨⟨?_, hnn⟩, hS1, hR.2.2⟩ hL
  rw [← hset]
  simp only [xce, hs, xu_self]
  have e1 : (fun j => Option.map (xad E) (if j = i.toNatClampNeg then some x else hr a j)) = va_up (fun j => Option.map (xad E) (hr a j)) i.toNatClampNeg (some (E.2.2.1 + x)) := by
    funext j
    by_cases hj : j = i.toNatClampNeg
    · simp [hj, va_up, xad_new (E := E) (show x < 1000000 by omega)]
    · simp [hj, va_up]
  rw [e1]
  exact hP1
theorem x_getsW (hd : decode w.2.1 pc = .ok (.getstatic idx, 3)) (hl1 : Cond.fieldLink w.1 idx RX3 "WIDENS" "[I" ∈ xTB) (hp : pc + 3 = pc') (kk : xR w b z k q pc' L (.ref 1000000 :: S) (n, sh, hi, hl, hr) o) : xR w b z k q pc L S (n, sh, hi, hl, hr) o := by
  intro p l e R s m args below meth c E Q Hh locs ls hC hE hR hL
  subst hp
  exact va_gets hC.1 hC.2.1 hC.2.2.2.2.2.1.2.2.2.2.1.1 hR.2.1 hC.2.2.2.1 (hC.2.2.2.2.1 _ hl1) (fun _ h9 => h9) hd (kk p l e R s m args below meth c E Q Hh locs ls hC hE hR hL)
theorem x_getsL (hd : decode w.2.1 pc = .ok (.getstatic idx, 3)) (hl1 : Cond.fieldLink w.1 idx RX3 "LOWEST" "[J" ∈ xTB) (hp : pc + 3 = pc') (kk : xR w b z k q pc' L (.ref 1000001 :: S) (n, sh, hi, hl, hr) o) : xR w b z k q pc L S (n, sh, hi, hl, hr) o := by
  intro p l e R s m args below meth c E Q Hh locs ls hC hE hR hL
  subst hp
  exact va_gets hC.1 hC.2.1 hC.2.2.2.2.2.1.2.2.2.2.2.1.1 hR.2.1 hC.2.2.2.1 (hC.2.2.2.2.1 _ hl1) (fun _ h9 => h9) hd (kk p l e R s m args below meth c E Q Hh locs ls hC hE hR hL)
theorem x_getsH (hd : decode w.2.1 pc = .ok (.getstatic idx, 3)) (hl1 : Cond.fieldLink w.1 idx RX3 "HIGHEST" "[J" ∈ xTB) (hp : pc + 3 = pc') (kk : xR w b z k q pc' L (.ref 1000002 :: S) (n, sh, hi, hl, hr) o) : xR w b z k q pc L S (n, sh, hi, hl, hr) o := by
  intro p l e R s m args below meth c E Q Hh locs ls hC hE hR hL
  subst hp
  exact va_gets hC.1 hC.2.1 hC.2.2.2.2.2.1.2.2.2.2.2.2.1.1 hR.2.1 hC.2.2.2.1 (hC.2.2.2.2.1 _ hl1) (fun _ h9 => h9) hd (kk p l e R s m args below meth c E Q Hh locs ls hC hE hR hL)
theorem x_sldW (hd : decode w.2.1 pc = .ok (.iaload, 1)) (hin : vp_in i 8) (hp : pc + 1 = pc') (kk : xR w b z k q pc' L (.int (xwid i.toNatClampNeg) :: S) (n, sh, hi, hl, hr) o) : xR w b z k q pc L (.int i :: .ref 1000000 :: S) (n, sh, hi, hl, hr) o := by
  intro p l e R s m args below meth c E Q Hh locs ls hC hE hR hL
  subst hp
  exact va_ti hC.1 hC.2.1 hC.2.2.2.2.2.1.2.2.2.2.1.2 hR.2.1 hin rfl hd (kk p l e R s m args below meth c E Q Hh locs ls hC hE hR hL)
theorem x_sldL (hd : decode w.2.1 pc = .ok (.laload, 1)) (hin : vp_in i 8) (hp : pc + 1 = pc') (kk : xR w b z k q pc' L (.long (xlow i.toNatClampNeg) :: S) (n, sh, hi, hl, hr) o) : xR w b z k q pc L (.int i :: .ref 1000001 :: S) (n, sh, hi, hl, hr) o := by
  intro p l e R s m args below meth c E Q Hh locs ls hC hE hR hL
  subst hp
  exact va_tl hC.1 hC.2.1 hC.2.2.2.2.2.1.2.2.2.2.2.1.2 hR.2.1 hin rfl hd (kk p l e R s m args below meth c E Q Hh locs ls hC hE hR hL)
theorem x_sldH (hd : decode w.2.1 pc = .ok (.laload, 1)) (hin : vp_in i 8) (hp : pc + 1 = pc') (kk : xR w b z k q pc' L (.long (xhig i.toNatClampNeg) :: S) (n, sh, hi, hl, hr) o) : xR w b z k q pc L (.int i :: .ref 1000002 :: S) (n, sh, hi, hl, hr) o := by
  intro p l e R s m args below meth c E Q Hh locs ls hC hE hR hL
  subst hp
  exact va_tl hC.1 hC.2.1 hC.2.2.2.2.2.1.2.2.2.2.2.2.1.2 hR.2.1 hin rfl hd (kk p l e R s m args below meth c E Q Hh locs ls hC hE hR hL)
theorem x_scl (hd : decode w.2.1 pc = .ok (.arraylength, 1)) (hp : pc + 1 = pc') (kk : xR w b z k q pc' L (.int (Int32.ofNat z.1) :: S) (n, sh, hi, hl, hr) o) : xR w b z k q pc L (.ref 1000003 :: S) (n, sh, hi, hl, hr) o := by
  intro p l e R s m args below meth c E Q Hh locs ls hC hE hR hL
  subst hp
  obtain ⟨g1, g2, g3⟩ := hC.2.2.2.2.2.1.2.2.2.2.2.2.2
  exact va_slen (A := xA E) (b := E.2.2.2 3) hC.1 hC.2.1 g1 g3 (fun h => by simp only [xA] at h; omega) hR.2.1 hd (kk p l e R s m args below meth c E Q Hh locs ls hC hE hR hL)
theorem x_scld (hd : decode w.2.1 pc = .ok (.iaload, 1)) (hin : vp_in i z.1) (hp : pc + 1 = pc') (kk : xR w b z k q pc' L (.int (z.2 i.toNatClampNeg) :: S) (n, sh, hi, hl, hr) o) : xR w b z k q pc L (.int i :: .ref 1000003 :: S) (n, sh, hi, hl, hr) o := by
  intro p l e R s m args below meth c E Q Hh locs ls hC hE hR hL
  subst hp
  obtain ⟨g1, g2, g3⟩ := hC.2.2.2.2.2.1.2.2.2.2.2.2.2
  exact va_sld (A := xA E) (b := E.2.2.2 3) hC.1 hC.2.1 g1 g3 (fun h => by simp only [xA] at h; omega) hR.2.1 hin hd (kk p l e R s m args below meth c E Q Hh locs ls hC hE hR hL)
end XG
section XY
variable {w : xWt} {b : xBd} {z : xZ} {k q pc pc' a a0 idx N N0 : Nat} {L : List (Option Value)} {S : List Value} {o : xOut} {n : Nat} {sh : Nat → Nat × Nat} {hi : Nat → Nat → Int32} {hl : Nat → Nat → Int64} {hr : Nat → Nat → Option Nat} {sp dp cn : Int32}
def xcp {α : Type} (f : Nat → Nat → α) (a0 a sp dp cn : Nat) : Nat → Nat → α := fun x => if x = a then va_cpy (f a0) (f a) sp dp cn else f x
theorem xcp_ne {α : Type} (f : Nat → Nat → α) {a x : Nat} (a0 sp dp cn : Nat) (h : x ≠ a) : xcp f a0 a sp dp cn x = f x := by simp [xcp, h]
theorem xcp_self {α : Type} (f : Nat → Nat → α) (a a0 sp dp cn : Nat) : xcp f a0 a sp dp cn a = va_cpy (f a0) (f a) sp dp cn := by simp [xcp]
def xnoMo (cn dp sp : Int32) (N0 N : Nat) : Prop := ¬ sp < 0 ∧ ¬ dp < 0 ∧ ¬ cn < 0 ∧ sp.toNatClampNeg + cn.toNatClampNeg ≤ N0 ∧ dp.toNatClampNeg + cn.toNatClampNeg ≤ N
theorem x_copi (hd : decode w.2.1 pc = .ok (.invokestatic idx, 3)) (hlk : Cond.methodLink w.1 idx arraycopyName ∈ xTB) (hnt : Cond.native arraycopyName ∈ xTB) (hst : Cond.static arraycopyName ∈ xTB) (hin : Cond.initialized "java/lang/System" ∈ xTB) (ha : a < n) (hs : sh a = (0, N)) (ha0 : a0 < n) (hs0 : sh a0 = (0, N0)) (hm : xnoMo cn dp sp N0 N) (hS : (S.map fun v => v.category).sum ≤ 8) (hb1 : 1 ≤ b.1) (hp : pc + 3 = pc')
    (kk : xR w b z k q pc' L S (n, sh, xcp hi a0 a sp.toNatClampNeg dp.toNatClampNeg cn.toNatClampNeg, hl, hr) o) : xR w b z k q pc L (.int cn :: .int dp :: .ref a :: .int sp :: .ref a0 :: S) (n, sh, hi, hl, hr) o := by
  intro p l e R s m args below meth c E Q Hh locs ls hC hE hR hL
  subst hp
  have hnn : n ≤ 1000000 := hR.1.2
  obtain ⟨h1, h2, h3, h4, h5⟩ := hm
  show W p l e R s m args below meth c Hh locs k q Q (F0 m pc ls (.int cn :: .int dp :: xtr E (.ref a) :: .int sp :: xtr E (.ref a0) :: S.map (xtr E)))
  rw [xtr_ref (by omega), xtr_ref (by omega)]
  have hcat : ((S.map (xtr E)).map fun v => v.category).sum = (S.map fun v => v.category).sum := by
    rw [List.map_map]
    exact congrArg List.sum (List.map_congr_left (fun v _ => xtr_cat E v))
  have hfr := hC.2.2.2.2.2.2.2.2.1
  have hlo := hC.2.2.2.2.2.2.2.2.2.1
  refine va_copyi (D := E.1) (cl := vwCl) (tys := xtys E) (ws := xws E (n, sh, hi, hl, hr)) (ty := .int) hC.1 hC.2.1 (hC.2.2.1.trans hL.2.1.symm) hC.2.2.2.1 (hC.2.2.2.2.1 _ hlk) (hC.2.2.2.2.1 _ hnt) (hC.2.2.2.2.1 _ hst) (hC.2.2.2.2.1 _ hin) hC.2.2.2.2.2.1.1 hR.1.1 xws_D hR.2.1 a0 a 0 0 ((xws_at (H := (n, sh, hi, hl, hr)) ha0).trans (by simp only [xce, hs0]; rfl)) ((xws_at (H := (n, sh, hi, hl, hr)) ha).trans (by simp only [xce, hs]; rfl)) rfl rfl rfl h1 h2 h3 h4 h5 (fun _ _ => rfl) (by omega) ?_ hd (fun H1 locs1 hP1 _ hS1 => ?_)
  · rw [hcat]
    have e9 : nativeFrameWords "java/lang/System" "arraycopy" 5 + 11 ≤ 60 := by decide +kernel
    omega
  · have hset := xws_set (E := E) (H := (n, sh, hi, hl, hr)) (H' := (n, sh, xcp hi a0 a sp.toNatClampNeg dp.toNatClampNeg cn.toNatClampNeg, hl, hr)) ha rfl rfl (fun x hx _ => xce_congr rfl (xcp_ne _ _ _ _ _ hx) rfl rfl)
    refine kk p l e R s m args below meth c E Q H1 locs1 ls hC hE ⟨⟨?_, hnn⟩, hS1, hR.2.2⟩ hL
    rw [← hset]
    simp only [xce, hs, xcp_self]
    exact hP1
theorem x_copl (hd : decode w.2.1 pc = .ok (.invokestatic idx, 3)) (hlk : Cond.methodLink w.1 idx arraycopyName ∈ xTB) (hnt : Cond.native arraycopyName ∈ xTB) (hst : Cond.static arraycopyName ∈ xTB) (hin : Cond.initialized "java/lang/System" ∈ xTB) (ha : a < n) (hs : sh a = (1, N)) (ha0 : a0 < n) (hs0 : sh a0 = (1, N0)) (hm : xnoMo cn dp sp N0 N) (hS : (S.map fun v => v.category).sum ≤ 8) (hb1 : 1 ≤ b.1) (hp : pc + 3 = pc')
    (kk : xR w b z k q pc' L S (n, sh, hi, xcp hl a0 a sp.toNatClampNeg dp.toNatClampNeg cn.toNatClampNeg, hr) o) : xR w b z k q pc L (.int cn :: .int dp :: .ref a :: .int sp :: .ref a0 :: S) (n, sh, hi, hl, hr) o := by
  intro p l e R s m args below meth c E Q Hh locs ls hC hE hR hL
  subst hp
  have hnn : n ≤ 1000000 := hR.1.2
  obtain ⟨h1, h2, h3, h4, h5⟩ := hm
  show W p l e R s m args below meth c Hh locs k q Q (F0 m pc ls (.int cn :: .int dp :: xtr E (.ref a) :: .int sp :: xtr E (.ref a0) :: S.map (xtr E)))
  rw [xtr_ref (by omega), xtr_ref (by omega)]
  have hcat : ((S.map (xtr E)).map fun v => v.category).sum = (S.map fun v => v.category).sum := by
    rw [List.map_map]
    exact congrArg List.sum (List.map_congr_left (fun v _ => xtr_cat E v))
  have hfr := hC.2.2.2.2.2.2.2.2.1
  have hlo := hC.2.2.2.2.2.2.2.2.2.1
  refine va_copyl (D := E.1) (cl := vwCl) (tys := xtys E) (ws := xws E (n, sh, hi, hl, hr)) (ty := .long) hC.1 hC.2.1 (hC.2.2.1.trans hL.2.1.symm) hC.2.2.2.1 (hC.2.2.2.2.1 _ hlk) (hC.2.2.2.2.1 _ hnt) (hC.2.2.2.2.1 _ hst) (hC.2.2.2.2.1 _ hin) hC.2.2.2.2.2.1.1 hR.1.1 xws_D hR.2.1 a0 a 1 1 ((xws_at (H := (n, sh, hi, hl, hr)) ha0).trans (by simp only [xce, hs0]; rfl)) ((xws_at (H := (n, sh, hi, hl, hr)) ha).trans (by simp only [xce, hs]; rfl)) rfl rfl rfl h1 h2 h3 h4 h5 (fun _ _ => rfl) (by omega) ?_ hd (fun H1 locs1 hP1 _ hS1 => ?_)
  · rw [hcat]
    have e9 : nativeFrameWords "java/lang/System" "arraycopy" 5 + 11 ≤ 60 := by decide +kernel
    omega
  · have hset := xws_set (E := E) (H := (n, sh, hi, hl, hr)) (H' := (n, sh, hi, xcp hl a0 a sp.toNatClampNeg dp.toNatClampNeg cn.toNatClampNeg, hr)) ha rfl rfl (fun x hx _ => xce_congr rfl rfl (xcp_ne _ _ _ _ _ hx) rfl)
    refine kk p l e R s m args below meth c E Q H1 locs1 ls hC hE ⟨⟨?_, hnn⟩, hS1, hR.2.2⟩ hL
    rw [← hset]
    simp only [xce, hs, xcp_self]
    exact hP1
end XY
