/-! bank -/
theorem wi2 {x a b : Int32} {A B : Int} (ha : a.toInt = A) (hb : b.toInt = B) (h : A ≤ x.toInt ∧ x.toInt ≤ B) : F_X11_within x a b = some 1 := by
  rw [within_eq, ha, hb, if_pos h]
theorem wo2 {x a b : Int32} {A B : Int} (ha : a.toInt = A) (hb : b.toInt = B) (h : ¬ (A ≤ x.toInt ∧ x.toInt ≤ B)) : F_X11_within x a b = some 0 := by
  rw [within_eq, ha, hb, if_neg h]
theorem ii2 {x : Int32} {a b : Int64} {A B : Int} (ha : a.toInt = A) (hb : b.toInt = B) (h : A ≤ x.toInt ∧ x.toInt ≤ B) : F_X12_in x.toInt64 a b = some 1 := by
  rw [in_eq, i2l_toInt, ha, hb, if_pos h]
theorem io2 {x : Int32} {a b : Int64} {A B : Int} (ha : a.toInt = A) (hb : b.toInt = B) (h : ¬ (A ≤ x.toInt ∧ x.toInt ≤ B)) : F_X12_in x.toInt64 a b = some 0 := by
  rw [in_eq, i2l_toInt, ha, hb, if_neg h]
theorem okcs.mono {nb : Nat} {bk bk' : Nat → Nat} {s : xSn} (h : okcs nb bk s) (hb : ∀ b, b < nb → bk' b = bk b) : okcs (nb + 1) bk' s := by
  refine ⟨by have := h.1; omega, fun j hj => ?_⟩
  rw [hb (j / 12) (by have := h.1; omega)]
  exact h.2 j hj
theorem IU.mono {nb : Nat} {bk bk' : Nat → Nat} {P : List xSn} {nx : Nat} {hi : Nat → Nat → Int32} {hl : Nat → Nat → Int64} {r : xRr} (h : IU nb bk P nx hi hl r) (hb : ∀ b, b < nb → bk' b = bk b) : IU (nb + 1) bk' P nx hi hl r := by
  obtain ⟨h1, h2, h3, h4, h5, h6, h7⟩ := h
  exact ⟨h1, h2, h3, h4, h5, h6, fun i s hs => ⟨(h7 i s hs).1.mono hb, (h7 i s hs).2⟩⟩
theorem IG.mono {nb : Nat} {bk bk' : Nat → Nat} {G : Nat → Option xSn} {hi : Nat → Nat → Int32} {hl : Nat → Nat → Int64} (h : IG nb bk G hi hl) (hb : ∀ b, b < nb → bk' b = bk b) : IG (nb + 1) bk' G hi hl := by
  intro j hj
  have h1 := h j hj
  cases hG : G j with
  | none => rw [hG] at h1; simp only at h1 ⊢; exact h1
  | some s => rw [hG] at h1; simp only at h1 ⊢; exact ⟨h1.1.mono hb, h1.2⟩
theorem IV.mono {nb nv : Nat} {vb : Nat → Nat} {vf vs : Nat → Int} {vc vk : Nat → Nat} {ch : Nat → List Nat} {bo : Nat → Nat} {hi : Nat → Nat → Int32} (h : IV nb nv vb vf vs vc vk ch bo hi) : IV (nb + 1) nv vb vf vs vc vk ch bo hi := by
  obtain ⟨h1, h2, h3, h4⟩ := h
  refine ⟨h1, h2, h3, fun v hv => ?_⟩
  obtain ⟨⟨g1, g2, g3, g4, g5, g6⟩, g7, g8, g9, g10⟩ := h4 v hv
  refine ⟨⟨g1, g2, g3, g4, g5, by omega⟩, g7, g8, g9, ?_⟩
  rcases g10 with ⟨e1, e2, e3⟩ | e
  · exact Or.inl ⟨by omega, e2, e3⟩
  · exact Or.inr e
section BANK
variable {hl : Nat → Nat → Int64} {r : xRr}
theorem addBank_l {k nb : Nat} (hk : k ≤ 12) (hnb : nb < 6) (hi : Nat → Nat → Int32) : F_X0_addBank_32 1000000 (nI k) (nI nb) 0 hi hl r = some (nI nb, xu (xfill hi 3 (12 * nb) 12 (fun _ => nI (if 7 < k then 10 else k))) 1 4 (nI (nb + 1)), xfill hl 4 (12 * nb) 12 (fun _ => 0), r) := by
  have key : ∀ d n i, i + d = 12 → d < n → F_X0_addBank_32 n (nI k) (nI nb) (nI i) (xfill hi 3 (12 * nb) i (fun _ => nI (if 7 < k then 10 else k))) (xfill hl 4 (12 * nb) i (fun _ => 0)) r = some (nI nb, xu (xfill hi 3 (12 * nb) 12 (fun _ => nI (if 7 < k then 10 else k))) 1 4 (nI (nb + 1)), xfill hl 4 (12 * nb) 12 (fun _ => 0), r) := by
    intro d
    induction d with
    | zero =>
      intro n i hik hn
      obtain ⟨n, rfl⟩ : ∃ q, n = q + 1 := ⟨n - 1, by omega⟩
      have : i = 12 := by omega
      subst this
      unfold F_X0_addBank_32
      rw [if_pos (by decide), show nI nb + 1 = nI (nb + 1) from nI_1 nb]
    | succ d ih =>
      intro n i hik hn
      obtain ⟨n, rfl⟩ : ∃ q, n = q + 1 := ⟨n - 1, by omega⟩
      unfold F_X0_addBank_32 F_X0_addBank_62
      have g : ¬ (12 : Int32) ≤ nI i := by
        rw [show (12 : Int32) = nI 12 from rfl, nI_leI (by omega) (by omega)]
        omega
      have e7 : ((7 : Int32) < nI k) = (7 < k) := nI_lt' (a := 7) (by decide) (by omega)
      have em : nI nb * 12 + nI i = nI (12 * nb + i) := by rw [nI_mul12, nI_add, Nat.mul_comm]
      have ox : xok (nI (12 * nb + i)) 72 = true := xok_t (by omega) (by decide)
      rw [if_neg g, em, cl_nI (by omega), show nI i + 1 = nI (i + 1) from nI_1 i, xfill_s hl _ _ _ _ rfl, ← ih n (i + 1) (by omega) (by omega)]
      simp only [ox, e7, if_true]
      by_cases c : 7 < k
      · simp only [if_pos c]
        rw [show (10 : Int32) = nI 10 from rfl, xfill_s hi _ _ _ _ rfl]
      · simp only [if_neg c]
        rw [xfill_s hi _ _ _ _ rfl]
  have h1 := key 12 1000000 0 (by decide) (by decide)
  rw [xfill_0, xfill_0] at h1
  exact h1
theorem mbank_l {k nb : Nat} (hk : k ≤ 12) (hnb : nb < 6) (hi : Nat → Nat → Int32) (h : hi 90 1 = nI nb) : F_X12_bank_81 1000000 (nI k) (nI (12 * nb)) hi hl r = some (nI nb, xu (xfill hi 93 (12 * nb) 12 (fun _ => nI (if 7 < k then 10 else k))) 90 1 (nI (nb + 1)), xfill hl 94 (12 * nb) 12 (fun _ => 0), r) := by
  have key : ∀ d n i, i + d = 12 → d < n → F_X12_bank_81 n (nI k) (nI (12 * nb + i)) (xfill hi 93 (12 * nb) i (fun _ => nI (if 7 < k then 10 else k))) (xfill hl 94 (12 * nb) i (fun _ => 0)) r = some (nI nb, xu (xfill hi 93 (12 * nb) 12 (fun _ => nI (if 7 < k then 10 else k))) 90 1 (nI (nb + 1)), xfill hl 94 (12 * nb) 12 (fun _ => 0), r) := by
    intro d
    induction d with
    | zero =>
      intro n i hik hn
      obtain ⟨n, rfl⟩ : ∃ q, n = q + 1 := ⟨n - 1, by omega⟩
      have : i = 12 := by omega
      subst this
      unfold F_X12_bank_81
      have e : (xfill hi 93 (12 * nb) 12 (fun _ => nI (if 7 < k then 10 else k))) 90 1 = nI nb := by rw [xfill_out _ _ _ _ _ (Or.inl (by decide)), h]
      rw [e, nI_12mul, show nI (12 * nb) + (12 : Int32) = nI (12 * nb + 12) from nI_add _ 12, if_pos ((nI_leI (by omega) (by omega)).mpr (Nat.le_refl _)), show nI nb + 1 = nI (nb + 1) from nI_1 nb, xu_at, nI_s1 (by omega)]
    | succ d ih =>
      intro n i hik hn
      obtain ⟨n, rfl⟩ : ∃ q, n = q + 1 := ⟨n - 1, by omega⟩
      unfold F_X12_bank_81 F_X12_bank_112
      have e : (xfill hi 93 (12 * nb) i (fun _ => nI (if 7 < k then 10 else k))) 90 1 = nI nb := by rw [xfill_out _ _ _ _ _ (Or.inl (by decide)), h]
      have g : ¬ nI (12 * nb + 12) ≤ nI (12 * nb + i) := by
        rw [nI_leI (by omega) (by omega)]
        omega
      have ox : xok (nI (12 * nb + i)) 72 = true := xok_t (by omega) (by decide)
      have e7 : ((8 : Int32) ≤ nI k) = (7 < k) := nI_le' (a := 8) (by decide) (by omega)
      rw [e, nI_12mul, show nI (12 * nb) + (12 : Int32) = nI (12 * nb + 12) from nI_add _ 12, if_neg g, cl_nI (by omega), show nI (12 * nb + i) + 1 = nI (12 * nb + (i + 1)) from nI_1 _, xfill_s hl _ _ _ _ rfl, ← ih n (i + 1) (by omega) (by omega)]
      simp only [ox, e7, if_true]
      by_cases c : 7 < k
      · simp only [if_pos c]
        rw [show (10 : Int32) = nI 10 from rfl, xfill_s hi _ _ _ _ rfl]
      · simp only [if_neg c]
        rw [xfill_s hi _ _ _ _ rfl]
  have h1 := key 12 1000000 0 (by decide) (by decide)
  rw [xfill_0, xfill_0] at h1
  exact h1
end BANK
theorem op_bank (a0 a1 : Int32) : xOpI xInv (F_X11_bank a0 a1) (F_X12_bank a0 a1) := by
  intro hi hl r h
  have h0 := h
  obtain ⟨nb, bk, bz, ck, cn, nv, vb, vf, vs, vc, vk, ch, bo, tk, tn, P, nx, G, ln, lp, md, mt, sn, st, sc, h1, h2, h3, h4, h5, h6, h7, h8, h9⟩ := h
  obtain ⟨g1, g2, g3, g4, g5⟩ := h1
  have y1 : (xu hi 90 0 (0 : Int32)) 90 1 = nI nb := by rw [xu_ne2 _ _ (Or.inr (by decide))]; exact g3
  rcases rng a0 (n := 13) (by decide) with ⟨k, hk, rfl, ek⟩ | hbad
  · by_cases hz : (1 : Int) ≤ a1.toInt ∧ a1.toInt ≤ 12
    · obtain ⟨z, hz1, hz2, rfl⟩ : ∃ z, 1 ≤ z ∧ z ≤ 12 ∧ a1 = nI z := by
        refine ⟨a1.toInt.toNat, by omega, by omega, Int32.toInt_inj.mp ?_⟩
        rw [nI_toInt (by omega)]
        omega
      by_cases hfull : nb = 6
      · have e6 : nI nb = (6 : Int32) := by rw [hfull]; rfl
        refine ⟨-3, (hi, hl, r), (xu hi 90 0 0, hl, r), ?_, ?_, h0.th⟩
        · unfold F_X11_bank
          rw [wi ek hk (by decide), xbP_some, if_neg (by decide), wi2 (A := 1) (B := 12) (by decide) (by decide) hz, xbP_some, if_neg (by decide), g2, if_pos e6]
        · unfold F_X12_bank
          simp only
          rw [ii ek hk (by decide), xbP_some, if_neg (by decide), ii2 (A := 1) (B := 12) (by decide) (by decide) hz, xbP_some, if_neg (by decide), y1, if_pos e6]
      · have hnb : nb < 6 := by omega
        have e6 : ¬ nI nb = (6 : Int32) := by
          rw [show (6 : Int32) = nI 6 from rfl, nI_eq' (by omega) (by decide)]
          exact hfull
        have e11 : (nI k < (11 : Int32)) = (k < 11) := nI_lt' (b := 11) (by omega) (by decide)
        have e10 : (nI k ≤ (10 : Int32)) = (k < 11) := by rw [show (10 : Int32) = nI 10 from rfl, nI_le' (by omega) (by decide)]; exact propext (by omega)
        generalize hw : (if 7 < k then 10 else k) = w
        generalize hy : (if k < 11 then z else 0) = y
        have aB : F_X0_addBank (nI k) (nI z) hi hl r = some (nI nb, xu (xfill (xu (xu hi 2 nb (nI k)) 5 nb (nI y)) 3 (12 * nb) 12 (fun _ => nI w)) 1 4 (nI (nb + 1)), xfill hl 4 (12 * nb) 12 (fun _ => 0), r) := by
          unfold F_X0_addBank F_X0_addBank_28
          rw [g2, if_pos (xok_t hnb (by decide)), cl_nI (by omega)]
          simp only [e11]
          rw [addBank_l (by omega) hnb, addBank_l (by omega) hnb, hw, ← hy]
          have oy : xok (nI nb) 6 = true := xok_t hnb (by decide)
          simp only [oy, if_true]
          by_cases c : k < 11
          · simp only [if_pos c]
          · simp only [if_neg c]; rfl
        generalize hA : xu (xfill (xu (xu hi 2 nb (nI k)) 5 nb (nI y)) 3 (12 * nb) 12 (fun _ => nI w)) 1 4 (nI (nb + 1)) = hiA at aB
        generalize hB : xfill hl 4 (12 * nb) 12 (fun _ => (0 : Int64)) = hlB at aB
        have rA : ∀ a, a ∉ [1, 2, 3, 5] → hiA a = hi a := by
          intro a ha
          simp only [List.mem_cons, List.not_mem_nil, or_false, not_or] at ha
          rw [← hA, xu_ne _ _ _ ha.1, xfill_ne _ _ _ _ ha.2.2.1, xu_ne _ _ _ ha.2.2.2, xu_ne _ _ _ ha.2.1]
        have y2 : (xu hiA 90 0 (0 : Int32)) 90 1 = nI nb := by rw [xu_ne2 _ _ (Or.inr (by decide)), rA 90 (by decide)]; exact g3
        generalize hC : xu (xu (xu hiA 90 0 (0 : Int32)) 91 nb (nI k)) 92 nb (nI y) = hiC
        have y4 : hiC 90 1 = nI nb := by rw [← hC, xu_ne2 _ _ (Or.inl (by decide)), xu_ne2 _ _ (Or.inl (by decide)), y2]
        have mB := mbank_l (hl := hlB) (r := r) (k := k) (by omega) hnb hiC y4
        rw [hw] at mB
        generalize hD : xu (xfill hiC 93 (12 * nb) 12 (fun _ => nI w)) 90 1 (nI (nb + 1)) = hiD at mB
        generalize hE : xfill hlB 94 (12 * nb) 12 (fun _ => (0 : Int64)) = hlE at mB
        refine ⟨nI nb, (hiA, hlB, r), (hiD, hlE, r), ?_, ?_, ?_⟩
        · unfold F_X11_bank
          rw [wi ek hk (by decide), xbP_some, if_neg (by decide), wi2 (A := 1) (B := 12) (by decide) (by decide) hz, xbP_some, if_neg (by decide), g2, if_neg e6, aB, xbI_some]
        · unfold F_X12_bank F_X12_bank_72
          simp only
          have oy : xok (nI nb) 6 = true := xok_t hnb (by decide)
          have y3 : (xu (xu hiA 90 0 (0 : Int32)) 91 nb (nI k)) 90 1 = nI nb := by rw [xu_ne2 _ _ (Or.inl (by decide)), y2]
          rw [ii ek hk (by decide), xbP_some, if_neg (by decide), ii2 (A := 1) (B := 12) (by decide) (by decide) hz, xbP_some, if_neg (by decide), y2, if_neg e6, if_pos (xok_t hnb (by decide)), cl_nI (by omega), y3, if_pos (xok_t hnb (by decide)), cl_nI (by omega)]
          simp only [e10]
          by_cases c : k < 11
          · rw [if_pos c] at hy ⊢
            subst hy
            rw [hC, y4, nI_12mul, mB]
          · rw [if_neg c] at hy ⊢
            subst hy
            rw [show (0 : Int32) = nI 0 from rfl] at hC ⊢
            rw [hC, y4, nI_12mul, mB, if_pos oy]
        · have hn : ∀ a, a ∉ [1, 2, 3, 5, 90, 91, 92, 93] → hiD a = hi a := by
            intro a ha
            simp only [List.mem_cons, List.not_mem_nil, or_false, not_or] at ha
            obtain ⟨n1, n2, n3, n5, n90, n91, n92, n93⟩ := ha
            rw [← hD, xu_ne _ _ _ n90, xfill_ne _ _ _ _ n93, ← hC, xu_ne _ _ _ n92, xu_ne _ _ _ n91, xu_ne _ _ _ n90, rA a (by simp <;> omega)]
          have hp : ∀ i, i ∉ [0, 1] → hiD 90 i = hi 90 i := by
            intro i hi9
            simp only [List.mem_cons, List.not_mem_nil, or_false, not_or] at hi9
            rw [← hD, xu_ne2 _ _ (Or.inr hi9.2), xfill_out _ _ _ _ _ (Or.inl (by decide)), ← hC, xu_ne2 _ _ (Or.inl (by decide)), xu_ne2 _ _ (Or.inl (by decide)), xu_ne2 _ _ (Or.inr hi9.1), rA 90 (by decide)]
          have hnl : ∀ a, a ∉ [4, 94] → hlE a = hl a := by
            intro a ha
            simp only [List.mem_cons, List.not_mem_nil, or_false, not_or] at ha
            rw [← hE, xfill_ne _ _ _ _ ha.2, ← hB, xfill_ne _ _ _ _ ha.1]
          have hpl : hlE 90 14 = hl 90 14 := by rw [hnl 90 (by decide)]
          have hbk : ∀ b, b < nb → (fun b => if b = nb then k else bk b) b = bk b := by
            intro b hb
            simp only
            rw [if_neg (by omega)]
          refine ⟨(nb + 1), (fun b => if b = nb then k else bk b), (fun b => if b = nb then y else bz b), (fun j => if 12 * nb ≤ j then w else ck j), (fun j => if 12 * nb ≤ j then 0 else cn j), nv, vb, vf, vs, vc, vk, ch, bo, tk, tn, P, nx, G, ln, lp, md, mt, sn, st, sc, ?_, (h2.tr (lx hn (by decide)) (hp 6 (by decide))).mono, h3.tr (hn 85 (by decide)) (hnl 85 (by decide)) (hp 13 (by decide)) hpl, (h4.tr (fun a g1 g2 => hn a (by simp <;> omega)) (lx hn (by decide)) (hp 15 (by decide)) (fun a g1 g2 => hnl a (by simp <;> omega)) (hnl 103 (by decide))).mono hbk, (h5.tr (lx hn (by decide)) (lx hnl (by decide))).mono hbk, h6.tr (hn 30 (by decide)) (hn 31 (by decide)) (hn 107 (by decide)) (hp 22 (by decide)), h7.tr (lx hn (by decide)), h8.tr (lx hn (by decide)) (hp 26 (by decide)), h9.tr (hn 121 (by decide)) (hn 112 (by decide)) (hp 29 (by decide))⟩
          have rE : ∀ a, a ∉ [90, 91, 92, 93] → hiD a = hiA a := by
            intro a ha
            simp only [List.mem_cons, List.not_mem_nil, or_false, not_or] at ha
            rw [← hD, xu_ne _ _ _ ha.1, xfill_ne _ _ _ _ ha.2.2.2, ← hC, xu_ne _ _ _ ha.2.2.1, xu_ne _ _ _ ha.2.1, xu_ne _ _ _ ha.1]
          have c1 : hiD 1 4 = nI (nb + 1) := by rw [rE 1 (by decide), ← hA, xu_at]
          have c2 : hiD 90 1 = nI (nb + 1) := by rw [← hD, xu_at]
          have d2 : ∀ b, hiD 2 b = if b = nb then nI k else hi 2 b := by
            intro b
            rw [rE 2 (by decide), ← hA, xu_ne2 _ _ (Or.inl (by decide)), xfill_out _ _ _ _ _ (Or.inl (by decide)), xu_ne2 _ _ (Or.inl (by decide))]
            simp [xu]
          have d5 : ∀ b, hiD 5 b = if b = nb then nI y else hi 5 b := by
            intro b
            rw [rE 5 (by decide), ← hA, xu_ne2 _ _ (Or.inl (by decide)), xfill_out _ _ _ _ _ (Or.inl (by decide))]
            simp [xu]
          have d91 : ∀ b, hiD 91 b = if b = nb then nI k else hi 91 b := by
            intro b
            rw [← hD, xu_ne2 _ _ (Or.inl (by decide)), xfill_out _ _ _ _ _ (Or.inl (by decide)), ← hC, xu_ne2 _ _ (Or.inl (by decide)), ← rA 91 (by decide)]
            simp [xu]
          have d92 : ∀ b, hiD 92 b = if b = nb then nI y else hi 92 b := by
            intro b
            rw [← hD, xu_ne2 _ _ (Or.inl (by decide)), xfill_out _ _ _ _ _ (Or.inl (by decide)), ← hC, ← rA 92 (by decide)]
            simp [xu]
          refine ⟨by omega, c1, c2, ?_, ?_⟩
          · intro b hb
            show _ ∧ _ ∧ _ ∧ hiD 2 b = _ ∧ hiD 91 b = _ ∧ hiD 5 b = _ ∧ hiD 92 b = _
            rw [d2, d5, d91, d92]
            by_cases e : b = nb
            · simp only [if_pos e]
              refine ⟨by omega, ?_, ?_, trivial, trivial, trivial, trivial⟩
              · rw [← hy]; by_cases c : k < 11
                · rw [if_pos c]; omega
                · rw [if_neg c]; omega
              · intro c
                rw [← hy, if_neg (by omega)]
            · simp only [if_neg e]
              exact g4 b (by omega)
          · intro j hj
            show hiD 3 j = _ ∧ hiD 93 j = _ ∧ hlE 4 j = _ ∧ hlE 94 j = _ ∧ _
            by_cases c : 12 * nb ≤ j
            · simp only [if_pos c]
              have ejb : j / 12 = nb := by omega
              simp only [if_pos ejb]
              refine ⟨?_, ?_, ?_, ?_, ?_⟩
              · rw [rE 3 (by decide), ← hA, xu_ne2 _ _ (Or.inl (by decide)), xfill_in _ _ _ _ _ c (by omega)]
              · rw [← hD, xu_ne2 _ _ (Or.inl (by decide)), xfill_in _ _ _ _ _ c (by omega)]
              · rw [← hE, xfill_out _ _ _ _ _ (Or.inl (by decide)), ← hB, xfill_in _ _ _ _ _ c (by omega)]
              · rw [← hE, xfill_in _ _ _ _ _ c (by omega)]
              · rw [← hw]
                by_cases c7 : 7 < k
                · rw [if_pos c7]
                  exact ⟨by omega, by omega, fun _ => rfl, by decide⟩
                · rw [if_neg c7]
                  exact ⟨by omega, fun _ => rfl, fun _ => rfl, rnd_0 k⟩
            · simp only [if_neg c]
              have ejb : ¬ j / 12 = nb := by omega
              simp only [if_neg ejb]
              obtain ⟨v1, v2, v3, v4, v5⟩ := g5 j (by omega)
              refine ⟨?_, ?_, ?_, ?_, v5⟩
              · rw [rE 3 (by decide), ← hA, xu_ne2 _ _ (Or.inl (by decide)), xfill_out _ _ _ _ _ (by omega), xu_ne2 _ _ (Or.inl (by decide)), xu_ne2 _ _ (Or.inl (by decide)), v1]
              · rw [← hD, xu_ne2 _ _ (Or.inl (by decide)), xfill_out _ _ _ _ _ (by omega), ← hC, xu_ne2 _ _ (Or.inl (by decide)), xu_ne2 _ _ (Or.inl (by decide)), xu_ne2 _ _ (Or.inl (by decide)), rA 93 (by decide), v2]
              · rw [← hE, xfill_out _ _ _ _ _ (Or.inl (by decide)), ← hB, xfill_out _ _ _ _ _ (by omega), v3]
              · rw [← hE, xfill_out _ _ _ _ _ (by omega), ← hB, xfill_out _ _ _ _ _ (Or.inl (by decide)), v4]
    · refine ⟨-1, (hi, hl, r), (xu hi 90 0 0, hl, r), ?_, ?_, h0.th⟩
      · unfold F_X11_bank
        rw [wi ek hk (by decide), xbP_some, if_neg (by decide), wo2 (A := 1) (B := 12) (by decide) (by decide) hz, xbP_some, if_pos rfl]
      · unfold F_X12_bank
        simp only
        rw [ii ek hk (by decide), xbP_some, if_neg (by decide), io2 (A := 1) (B := 12) (by decide) (by decide) hz, xbP_some, if_pos rfl]
  · refine ⟨-1, (hi, hl, r), (xu hi 90 0 0, hl, r), ?_, ?_, h0.th⟩
    · unfold F_X11_bank
      rw [wo hbad (by decide), xbP_some, if_pos rfl]
    · unfold F_X12_bank
      simp only
      rw [io hbad (by decide), xbP_some, if_pos rfl]
