section
variable {z : xZ}
def F_X0_addBank_62 (K32 : Int32 → Int32 → Int32 → (Nat → Nat → Int32) → (Nat → Nat → Int64) → xRr → Option (Int32 × xSt)) (v1 : Int32) (v3 : Int32) (v4 : Int32) (s1 : Int32) (s2 : Int32) (hi : Nat → Nat → Int32) (hl : Nat → Nat → Int64) (r : xRr) : Option (Int32 × xSt) := if xok s1 72 = true then if xok ((v3 * (12 : Int32)) + v4) 72 = true then K32 v1 v3 (v4 + (1)) (xu hi 3 (Int32.toNatClampNeg s1) s2) (xu hl 4 (Int32.toNatClampNeg ((v3 * (12 : Int32)) + v4)) (0 : Int64)) r else none else none
set_option maxRecDepth 20000 in
set_option maxHeartbeats 2000000 in
theorem r_X0_addBank_62 (K32 : Int32 → Int32 → Int32 → (Nat → Nat → Int32) → (Nat → Nat → Int64) → xRr → Option (Int32 × xSt)) (hK32 : ∀ (v1 : Int32) (v3 : Int32) (v4 : Int32) (d2 : Option Value) (hi : Nat → Nat → Int32) (hl : Nat → Nat → Int64) (r : xRr) (o : Int32 × xSt), K32 v1 v3 v4 hi hl r = some o → xR (RX0, cX0_addBank, 5, false, 1) (0, 0, 0) z 0 0 32 [some (.ref 1), some (.int v1), d2, some (.int v3), some (.int v4)] [] (xhp hi hl r) (xoI o)) (v1 : Int32) (v3 : Int32) (v4 : Int32) (s1 : Int32) (s2 : Int32) (d2 : Option Value) (hi : Nat → Nat → Int32) (hl : Nat → Nat → Int64) (r : xRr) (o : Int32 × xSt) (h : F_X0_addBank_62 K32 v1 v3 v4 s1 s2 hi hl r = some o) : xR (RX0, cX0_addBank, 5, false, 1) (0, 0, 0) z 0 0 62 [some (.ref 1), some (.int v1), d2, some (.int v3), some (.int v4)] [.int s2, .int s1, .ref 3] (xhp hi hl r) (xoI o) := by
  refine xg_if h (fun g1 h => ?_)
  refine x_iast (pc' := 63) dX0_addBank_62 (by decide) rfl (xok_in g1) rfl ?_
  refine x_aload_n (pc' := 64) dX0_addBank_63 rfl rfl ?_
  refine x_getr (pc' := 67) (t := 4) dX0_addBank_64 f_X0_18 (by decide) rfl rfl rfl rfl ?_
  refine x_iload_n (pc' := 68) dX0_addBank_67 rfl rfl ?_
  refine x_bipush (pc' := 70) (x := 12) dX0_addBank_68 (by decide) rfl ?_
  refine x_imul (pc' := 71) dX0_addBank_70 rfl ?_
  refine x_iload (pc' := 73) dX0_addBank_71 rfl rfl ?_
  refine x_iadd (pc' := 74) dX0_addBank_73 rfl ?_
  refine x_lconst (pc' := 75) (x := 0) dX0_addBank_74 (by decide) rfl ?_
  refine xg_if h (fun g2 h => ?_)
  refine x_last (pc' := 76) dX0_addBank_75 (by decide) rfl (xok_in g2) rfl ?_
  refine x_iinc (pc' := 79) (v := (v4 + (1))) (L' := [some (.ref 1), some (.int v1), d2, some (.int v3), some (.int (v4 + (1)))]) dX0_addBank_76 rfl rfl (Nat.le_of_ble_eq_true rfl) rfl rfl ?_
  refine x_goto (tgt := 32) dX0_addBank_79 (by decide) ?_
  exact hK32 _ _ _ _ _ _ _ _ h
def F_X0_addBank_32 : Nat → Int32 → Int32 → Int32 → (Nat → Nat → Int32) → (Nat → Nat → Int64) → xRr → Option (Int32 × xSt)
  | 0, _, _, _, _, _, _ => none
  | n + 1, v1, v3, v4, hi, hl, r => if (12 : Int32) ≤ v4 then some (v3, (xu hi 1 4 (v3 + (1 : Int32))), hl, r) else if (7 : Int32) < v1 then F_X0_addBank_62 (F_X0_addBank_32 n) v1 v3 v4 ((v3 * (12 : Int32)) + v4) (10 : Int32) hi hl r else F_X0_addBank_62 (F_X0_addBank_32 n) v1 v3 v4 ((v3 * (12 : Int32)) + v4) v1 hi hl r
set_option maxRecDepth 20000 in
set_option maxHeartbeats 2000000 in
theorem r_X0_addBank_32 : ∀ (n : Nat) (v1 : Int32) (v3 : Int32) (v4 : Int32) (d2 : Option Value) (hi : Nat → Nat → Int32) (hl : Nat → Nat → Int64) (r : xRr) (o : Int32 × xSt), F_X0_addBank_32 n v1 v3 v4 hi hl r = some o → xR (RX0, cX0_addBank, 5, false, 1) (0, 0, 0) z 0 0 32 [some (.ref 1), some (.int v1), d2, some (.int v3), some (.int v4)] [] (xhp hi hl r) (xoI o) := by
  intro n
  induction n with
  | zero =>
    intro v1 v3 v4 d2 hi hl r o h
    have h : none = some o := h
    cases h
  | succ n ih =>
    intro v1 v3 v4 d2 hi hl r o h
    refine x_iload (pc' := 34) dX0_addBank_32 rfl rfl ?_
    refine x_bipush (pc' := 36) (x := 12) dX0_addBank_34 (by decide) rfl ?_
    refine xg_ite h (fun g1 h => ?_) (fun g1 h => ?_)
    · refine x_icmp_ge (tgt := 82) (pc' := 39) dX0_addBank_36 (by decide) rfl (fun _ => ?_) (fun hn => absurd g1 hn)
      refine x_aload_n (pc' := 83) dX0_addBank_82 rfl rfl ?_
      refine x_iload_n (pc' := 84) dX0_addBank_83 rfl rfl ?_
      refine x_iconst (pc' := 85) (x := 1) dX0_addBank_84 (by decide) rfl ?_
      refine x_iadd (pc' := 86) dX0_addBank_85 rfl ?_
      refine x_puti (pc' := 89) dX0_addBank_86 f_X0_25 (Or.inl rfl) (by decide) rfl rfl rfl ?_
      refine x_iload_n (pc' := 90) dX0_addBank_89 rfl rfl ?_
      obtain rfl := Option.some.inj h
      exact x_iret dX0_addBank_90 rfl rfl (Nat.le_of_ble_eq_true rfl) rfl
    · refine x_icmp_ge (tgt := 82) (pc' := 39) dX0_addBank_36 (by decide) rfl (fun hn => absurd hn g1) (fun _ => ?_)
      refine x_aload_n (pc' := 40) dX0_addBank_39 rfl rfl ?_
      refine x_getr (pc' := 43) (t := 3) dX0_addBank_40 f_X0_15 (by decide) rfl rfl rfl rfl ?_
      refine x_iload_n (pc' := 44) dX0_addBank_43 rfl rfl ?_
      refine x_bipush (pc' := 46) (x := 12) dX0_addBank_44 (by decide) rfl ?_
      refine x_imul (pc' := 47) dX0_addBank_46 rfl ?_
      refine x_iload (pc' := 49) dX0_addBank_47 rfl rfl ?_
      refine x_iadd (pc' := 50) dX0_addBank_49 rfl ?_
      refine x_iload_n (pc' := 51) dX0_addBank_50 rfl rfl ?_
      refine x_bipush (pc' := 53) (x := 7) dX0_addBank_51 (by decide) rfl ?_
      refine xg_ite h (fun g2 h => ?_) (fun g2 h => ?_)
      · refine x_icmp_gt (tgt := 60) (pc' := 56) dX0_addBank_53 (by decide) rfl (fun _ => ?_) (fun hn => absurd g2 hn)
        refine x_bipush (pc' := 62) (x := 10) dX0_addBank_60 (by decide) rfl ?_
        exact r_X0_addBank_62 (F_X0_addBank_32 n) ih _ _ _ _ _ _ _ _ _ _ h
      · refine x_icmp_gt (tgt := 60) (pc' := 56) dX0_addBank_53 (by decide) rfl (fun hn => absurd hn g2) (fun _ => ?_)
        refine x_iload_n (pc' := 57) dX0_addBank_56 rfl rfl ?_
        refine x_goto (tgt := 62) dX0_addBank_57 (by decide) ?_
        exact r_X0_addBank_62 (F_X0_addBank_32 n) ih _ _ _ _ _ _ _ _ _ _ h
def F_X0_addBank_28 (v1 : Int32) (v3 : Int32) (s1 : Int32) (s2 : Int32) (hi : Nat → Nat → Int32) (hl : Nat → Nat → Int64) (r : xRr) : Option (Int32 × xSt) := if xok s1 6 = true then F_X0_addBank_32 1000000 v1 v3 (0 : Int32) (xu hi 5 (Int32.toNatClampNeg s1) s2) hl r else none
set_option maxRecDepth 20000 in
set_option maxHeartbeats 2000000 in
theorem r_X0_addBank_28 (v1 : Int32) (v3 : Int32) (s1 : Int32) (s2 : Int32) (d2 : Option Value) (d4 : Option Value) (hi : Nat → Nat → Int32) (hl : Nat → Nat → Int64) (r : xRr) (o : Int32 × xSt) (h : F_X0_addBank_28 v1 v3 s1 s2 hi hl r = some o) : xR (RX0, cX0_addBank, 5, false, 1) (0, 0, 0) z 0 0 28 [some (.ref 1), some (.int v1), d2, some (.int v3), d4] [.int s2, .int s1, .ref 5] (xhp hi hl r) (xoI o) := by
  refine xg_if h (fun g1 h => ?_)
  refine x_iast (pc' := 29) dX0_addBank_28 (by decide) rfl (xok_in g1) rfl ?_
  refine x_iconst (pc' := 30) (x := 0) dX0_addBank_29 (by decide) rfl ?_
  refine x_istore (pc' := 32) (L' := [some (.ref 1), some (.int v1), d2, some (.int v3), some (.int (0 : Int32))]) dX0_addBank_30 (Nat.le_of_ble_eq_true rfl) rfl rfl ?_
  exact r_X0_addBank_32 1000000 _ _ _ _ _ _ _ _ h
def F_X0_addBank (v1 : Int32) (v2 : Int32) (hi : Nat → Nat → Int32) (hl : Nat → Nat → Int64) (r : xRr) : Option (Int32 × xSt) := if xok (hi 1 4) 6 = true then if v1 < (11 : Int32) then F_X0_addBank_28 v1 (hi 1 4) (hi 1 4) v2 (xu hi 2 (Int32.toNatClampNeg (hi 1 4)) v1) hl r else F_X0_addBank_28 v1 (hi 1 4) (hi 1 4) (0 : Int32) (xu hi 2 (Int32.toNatClampNeg (hi 1 4)) v1) hl r else none
set_option maxRecDepth 20000 in
set_option maxHeartbeats 2000000 in
theorem r_X0_addBank (v1 : Int32) (v2 : Int32) (hi : Nat → Nat → Int32) (hl : Nat → Nat → Int64) (r : xRr) (o : Int32 × xSt) (h : F_X0_addBank v1 v2 hi hl r = some o) : xM yX0_addBank cX0_addBank 5 1 (0, 0, 0) z [.ref 1, .int v1, .int v2] (xhp hi hl r) (xoI o) := by
  refine x_meth2 (C := RX0) (ini := false) (L := [some (.ref 1), some (.int v1), some (.int v2), none, none]) rfl (by decide) (fun h9 => by cases h9) (by decide) (Nat.le_of_ble_eq_true rfl) rfl ?_
  refine x_aload_n (pc' := 1) dX0_addBank_0 rfl rfl ?_
  refine x_geti (pc' := 4) dX0_addBank_1 f_X0_25 (by decide) rfl rfl rfl ?_
  refine x_istore_n (pc' := 5) (L' := [some (.ref 1), some (.int v1), some (.int v2), some (.int (hi 1 4)), none]) dX0_addBank_4 (Nat.le_of_ble_eq_true rfl) rfl rfl ?_
  refine x_aload_n (pc' := 6) dX0_addBank_5 rfl rfl ?_
  refine x_getr (pc' := 9) (t := 2) dX0_addBank_6 f_X0_9 (by decide) rfl rfl rfl rfl ?_
  refine x_iload_n (pc' := 10) dX0_addBank_9 rfl rfl ?_
  refine x_iload_n (pc' := 11) dX0_addBank_10 rfl rfl ?_
  refine xg_if h (fun g1 h => ?_)
  refine x_iast (pc' := 12) dX0_addBank_11 (by decide) rfl (xok_in g1) rfl ?_
  refine x_aload_n (pc' := 13) dX0_addBank_12 rfl rfl ?_
  refine x_getr (pc' := 16) (t := 5) dX0_addBank_13 f_X0_22 (by decide) rfl rfl rfl rfl ?_
  refine x_iload_n (pc' := 17) dX0_addBank_16 rfl rfl ?_
  refine x_iload_n (pc' := 18) dX0_addBank_17 rfl rfl ?_
  refine x_bipush (pc' := 20) (x := 11) dX0_addBank_18 (by decide) rfl ?_
  refine xg_ite h (fun g2 h => ?_) (fun g2 h => ?_)
  · refine x_icmp_lt (tgt := 27) (pc' := 23) dX0_addBank_20 (by decide) rfl (fun _ => ?_) (fun hn => absurd g2 hn)
    refine x_iload_n (pc' := 28) dX0_addBank_27 rfl rfl ?_
    exact r_X0_addBank_28 _ _ _ _ _ _ _ _ _ _ h
  · refine x_icmp_lt (tgt := 27) (pc' := 23) dX0_addBank_20 (by decide) rfl (fun hn => absurd hn g2) (fun _ => ?_)
    refine x_iconst (pc' := 24) (x := 0) dX0_addBank_23 (by decide) rfl ?_
    refine x_goto (tgt := 28) dX0_addBank_24 (by decide) ?_
    exact r_X0_addBank_28 _ _ _ _ _ _ _ _ _ _ h
def F_X0_hasBank (v1 : Int32) (hi : Nat → Nat → Int32) (hl : Nat → Nat → Int64) (r : xRr) : Option (Int32 × xSt) := if v1 < 0 then some ((0 : Int32), hi, hl, r) else if (hi 1 4) ≤ v1 then some ((0 : Int32), hi, hl, r) else some ((1 : Int32), hi, hl, r)
set_option maxRecDepth 20000 in
set_option maxHeartbeats 2000000 in
theorem r_X0_hasBank (v1 : Int32) (hi : Nat → Nat → Int32) (hl : Nat → Nat → Int64) (r : xRr) (o : Int32 × xSt) (h : F_X0_hasBank v1 hi hl r = some o) : xM yX0_hasBank cX0_hasBank 2 3 (0, 0, 0) z [.ref 1, .int v1] (xhp hi hl r) (xoI o) := by
  refine x_meth2 (C := RX0) (ini := false) (L := [some (.ref 1), some (.int v1)]) rfl (by decide) (fun h9 => by cases h9) (by decide) (Nat.le_of_ble_eq_true rfl) rfl ?_
  refine x_iload_n (pc' := 1) dX0_hasBank_0 rfl rfl ?_
  refine xg_ite h (fun g1 h => ?_) (fun g1 h => ?_)
  · refine x_if_lt (tgt := 16) (pc' := 4) dX0_hasBank_1 (by decide) rfl (fun _ => ?_) (fun hn => absurd g1 hn)
    refine x_iconst (pc' := 17) (x := 0) dX0_hasBank_16 (by decide) rfl ?_
    obtain rfl := Option.some.inj h
    exact x_zret dX0_hasBank_17 rfl (Or.inl rfl) rfl (Nat.le_of_ble_eq_true rfl) rfl
  · refine x_if_lt (tgt := 16) (pc' := 4) dX0_hasBank_1 (by decide) rfl (fun hn => absurd hn g1) (fun _ => ?_)
    refine x_iload_n (pc' := 5) dX0_hasBank_4 rfl rfl ?_
    refine x_aload_n (pc' := 6) dX0_hasBank_5 rfl rfl ?_
    refine x_geti (pc' := 9) dX0_hasBank_6 f_X0_25 (by decide) rfl rfl rfl ?_
    refine xg_ite h (fun g2 h => ?_) (fun g2 h => ?_)
    · refine x_icmp_ge (tgt := 16) (pc' := 12) dX0_hasBank_9 (by decide) rfl (fun _ => ?_) (fun hn => absurd g2 hn)
      refine x_iconst (pc' := 17) (x := 0) dX0_hasBank_16 (by decide) rfl ?_
      obtain rfl := Option.some.inj h
      exact x_zret dX0_hasBank_17 rfl (Or.inl rfl) rfl (Nat.le_of_ble_eq_true rfl) rfl
    · refine x_icmp_ge (tgt := 16) (pc' := 12) dX0_hasBank_9 (by decide) rfl (fun hn => absurd hn g2) (fun _ => ?_)
      refine x_iconst (pc' := 13) (x := 1) dX0_hasBank_12 (by decide) rfl ?_
      refine x_goto (tgt := 17) dX0_hasBank_13 (by decide) ?_
      obtain rfl := Option.some.inj h
      exact x_zret dX0_hasBank_17 rfl (Or.inr rfl) rfl (Nat.le_of_ble_eq_true rfl) rfl
def F_X0_hasCell (v1 : Int32) (v2 : Int32) (hi : Nat → Nat → Int32) (hl : Nat → Nat → Int64) (r : xRr) : Option (Int32 × xSt) := if v2 < 0 then some ((0 : Int32), hi, hl, r) else if xok v1 6 = true then if (hi 5 (Int32.toNatClampNeg v1)) ≤ v2 then some ((0 : Int32), hi, hl, r) else some ((1 : Int32), hi, hl, r) else none
set_option maxRecDepth 20000 in
set_option maxHeartbeats 2000000 in
theorem r_X0_hasCell (v1 : Int32) (v2 : Int32) (hi : Nat → Nat → Int32) (hl : Nat → Nat → Int64) (r : xRr) (o : Int32 × xSt) (h : F_X0_hasCell v1 v2 hi hl r = some o) : xM yX0_hasCell cX0_hasCell 3 3 (0, 0, 0) z [.ref 1, .int v1, .int v2] (xhp hi hl r) (xoI o) := by
  refine x_meth2 (C := RX0) (ini := false) (L := [some (.ref 1), some (.int v1), some (.int v2)]) rfl (by decide) (fun h9 => by cases h9) (by decide) (Nat.le_of_ble_eq_true rfl) rfl ?_
  refine x_iload_n (pc' := 1) dX0_hasCell_0 rfl rfl ?_
  refine xg_ite h (fun g1 h => ?_) (fun g1 h => ?_)
  · refine x_if_lt (tgt := 18) (pc' := 4) dX0_hasCell_1 (by decide) rfl (fun _ => ?_) (fun hn => absurd g1 hn)
    refine x_iconst (pc' := 19) (x := 0) dX0_hasCell_18 (by decide) rfl ?_
    obtain rfl := Option.some.inj h
    exact x_zret dX0_hasCell_19 rfl (Or.inl rfl) rfl (Nat.le_of_ble_eq_true rfl) rfl
  · refine x_if_lt (tgt := 18) (pc' := 4) dX0_hasCell_1 (by decide) rfl (fun hn => absurd hn g1) (fun _ => ?_)
    refine x_iload_n (pc' := 5) dX0_hasCell_4 rfl rfl ?_
    refine x_aload_n (pc' := 6) dX0_hasCell_5 rfl rfl ?_
    refine x_getr (pc' := 9) (t := 5) dX0_hasCell_6 f_X0_22 (by decide) rfl rfl rfl rfl ?_
    refine x_iload_n (pc' := 10) dX0_hasCell_9 rfl rfl ?_
    refine xg_if h (fun g2 h => ?_)
    refine x_iald (pc' := 11) dX0_hasCell_10 (by decide) rfl (xok_in g2) rfl ?_
    refine xg_ite h (fun g3 h => ?_) (fun g3 h => ?_)
    · refine x_icmp_ge (tgt := 18) (pc' := 14) dX0_hasCell_11 (by decide) rfl (fun _ => ?_) (fun hn => absurd g3 hn)
      refine x_iconst (pc' := 19) (x := 0) dX0_hasCell_18 (by decide) rfl ?_
      obtain rfl := Option.some.inj h
      exact x_zret dX0_hasCell_19 rfl (Or.inl rfl) rfl (Nat.le_of_ble_eq_true rfl) rfl
    · refine x_icmp_ge (tgt := 18) (pc' := 14) dX0_hasCell_11 (by decide) rfl (fun hn => absurd hn g3) (fun _ => ?_)
      refine x_iconst (pc' := 15) (x := 1) dX0_hasCell_14 (by decide) rfl ?_
      refine x_goto (tgt := 19) dX0_hasCell_15 (by decide) ?_
      obtain rfl := Option.some.inj h
      exact x_zret dX0_hasCell_19 rfl (Or.inr rfl) rfl (Nat.le_of_ble_eq_true rfl) rfl
def F_X3_rounded_128 (v0 : Int64) (v12 : Int64) : Option (Int64) := if 0 ≤ (lg_cmp v0 (0 : Int64)) then some v12 else some (-v12)
set_option maxRecDepth 20000 in
set_option maxHeartbeats 2000000 in
theorem r_X3_rounded_128 (v0 : Int64) (v12 : Int64) (d1 : Option Value) (d2 : Option Value) (d3 : Option Value) (d4 : Option Value) (d5 : Option Value) (d6 : Option Value) (d7 : Option Value) (d8 : Option Value) (d9 : Option Value) (d10 : Option Value) (d11 : Option Value) (d13 : Option Value) (d14 : Option Value) (d15 : Option Value) (H : xHp) (o : Int64) (h : F_X3_rounded_128 v0 v12 = some o) : xR (RX3, cX3_rounded, 16, false, 2) (1, 0, 0) z 0 0 128 [some (.long v0), d1, d2, d3, d4, d5, d6, d7, d8, d9, d10, d11, some (.long v12), d13, d14, d15] [] H (some (.long o), H) := by
  refine x_lload_n (pc' := 129) dX3_rounded_128 rfl rfl ?_
  refine x_lconst (pc' := 130) (x := 0) dX3_rounded_129 (by decide) rfl ?_
  refine x_lcmp (pc' := 131) dX3_rounded_130 rfl ?_
  refine xg_ite h (fun g1 h => ?_) (fun g1 h => ?_)
  · refine x_if_ge (tgt := 140) (pc' := 134) dX3_rounded_131 (by decide) rfl (fun _ => ?_) (fun hn => absurd g1 hn)
    refine x_lload (pc' := 142) dX3_rounded_140 rfl rfl ?_
    obtain rfl := Option.some.inj h
    exact x_lret dX3_rounded_142 rfl rfl (Nat.le_of_ble_eq_true rfl) rfl
  · refine x_if_ge (tgt := 140) (pc' := 134) dX3_rounded_131 (by decide) rfl (fun hn => absurd hn g1) (fun _ => ?_)
    refine x_lload (pc' := 136) dX3_rounded_134 rfl rfl ?_
    refine x_lneg (pc' := 137) dX3_rounded_136 rfl ?_
    refine x_goto (tgt := 142) dX3_rounded_137 (by decide) ?_
    obtain rfl := Option.some.inj h
    exact x_lret dX3_rounded_142 rfl rfl (Nat.le_of_ble_eq_true rfl) rfl
def F_X3_rounded_121 (v0 : Int64) (v8 : Int64) (v12 : Int64) : Option (Int64) := F_X3_rounded_128 v0 (v12 + v8)
set_option maxRecDepth 20000 in
set_option maxHeartbeats 2000000 in
theorem r_X3_rounded_121 (v0 : Int64) (v8 : Int64) (v12 : Int64) (d1 : Option Value) (d2 : Option Value) (d3 : Option Value) (d4 : Option Value) (d5 : Option Value) (d6 : Option Value) (d7 : Option Value) (d9 : Option Value) (d10 : Option Value) (d11 : Option Value) (d13 : Option Value) (d14 : Option Value) (d15 : Option Value) (H : xHp) (o : Int64) (h : F_X3_rounded_121 v0 v8 v12 = some o) : xR (RX3, cX3_rounded, 16, false, 2) (1, 0, 0) z 0 0 121 [some (.long v0), d1, d2, d3, d4, d5, d6, d7, some (.long v8), d9, d10, d11, some (.long v12), d13, d14, d15] [] H (some (.long o), H) := by
  refine x_lload (pc' := 123) dX3_rounded_121 rfl rfl ?_
  refine x_lload (pc' := 125) dX3_rounded_123 rfl rfl ?_
  refine x_ladd (pc' := 126) dX3_rounded_125 rfl ?_
  refine x_lstore (pc' := 128) (L' := [some (.long v0), d1, d2, d3, d4, d5, d6, d7, some (.long v8), d9, d10, (xcl d11), some (.long (v12 + v8)), none, d14, d15]) dX3_rounded_126 (Nat.le_of_ble_eq_true rfl) rfl rfl ?_
  exact r_X3_rounded_128 _ _ _ _ _ _ _ _ _ _ _ _ _ _ _ _ _ _ h
def F_X3_rounded_62 (v0 : Int64) (v3 : Int64) (v7 : Int32) : Option (Int64) := if v7 = 0 then some v0 else if 0 < (lg_cmp (v3 &&& (((1 : Int64) <<< ((Int32.toInt64 v7) &&& 63)) - (1 : Int64))) (((1 : Int64) <<< ((Int32.toInt64 v7) &&& 63)) >>> ((Int32.toInt64 (1 : Int32)) &&& 63))) then F_X3_rounded_121 v0 ((1 : Int64) <<< ((Int32.toInt64 v7) &&& 63)) (v3 - (v3 &&& (((1 : Int64) <<< ((Int32.toInt64 v7) &&& 63)) - (1 : Int64)))) else if (lg_cmp (v3 &&& (((1 : Int64) <<< ((Int32.toInt64 v7) &&& 63)) - (1 : Int64))) (((1 : Int64) <<< ((Int32.toInt64 v7) &&& 63)) >>> ((Int32.toInt64 (1 : Int32)) &&& 63))) = 0 then if (lg_cmp ((v3 - (v3 &&& (((1 : Int64) <<< ((Int32.toInt64 v7) &&& 63)) - (1 : Int64)))) &&& ((1 : Int64) <<< ((Int32.toInt64 v7) &&& 63))) (0 : Int64)) = 0 then F_X3_rounded_128 v0 (v3 - (v3 &&& (((1 : Int64) <<< ((Int32.toInt64 v7) &&& 63)) - (1 : Int64)))) else F_X3_rounded_121 v0 ((1 : Int64) <<< ((Int32.toInt64 v7) &&& 63)) (v3 - (v3 &&& (((1 : Int64) <<< ((Int32.toInt64 v7) &&& 63)) - (1 : Int64)))) else F_X3_rounded_128 v0 (v3 - (v3 &&& (((1 : Int64) <<< ((Int32.toInt64 v7) &&& 63)) - (1 : Int64))))
set_option maxRecDepth 20000 in
set_option maxHeartbeats 2000000 in
theorem r_X3_rounded_62 (v0 : Int64) (v3 : Int64) (v7 : Int32) (d1 : Option Value) (d2 : Option Value) (d4 : Option Value) (d5 : Option Value) (d6 : Option Value) (d8 : Option Value) (d9 : Option Value) (d10 : Option Value) (d11 : Option Value) (d12 : Option Value) (d13 : Option Value) (d14 : Option Value) (d15 : Option Value) (H : xHp) (o : Int64) (h : F_X3_rounded_62 v0 v3 v7 = some o) : xR (RX3, cX3_rounded, 16, false, 2) (1, 0, 0) z 0 0 62 [some (.long v0), d1, d2, some (.long v3), d4, d5, d6, some (.int v7), d8, d9, d10, d11, d12, d13, d14, d15] [] H (some (.long o), H) := by
  refine x_iload (pc' := 64) dX3_rounded_62 rfl rfl ?_
  refine xg_ite h (fun g1 h => ?_) (fun g1 h => ?_)
  · refine x_if_ne (tgt := 69) (pc' := 67) dX3_rounded_64 (by decide) rfl (fun hn => absurd g1 hn) (fun _ => ?_)
    refine x_lload_n (pc' := 68) dX3_rounded_67 rfl rfl ?_
    obtain rfl := Option.some.inj h
    exact x_lret dX3_rounded_68 rfl rfl (Nat.le_of_ble_eq_true rfl) rfl
  · refine x_if_ne (tgt := 69) (pc' := 67) dX3_rounded_64 (by decide) rfl (fun _ => ?_) (fun hn => absurd hn g1)
    refine x_lconst (pc' := 70) (x := 1) dX3_rounded_69 (by decide) rfl ?_
    refine x_iload (pc' := 72) dX3_rounded_70 rfl rfl ?_
    refine x_lshl (pc' := 73) dX3_rounded_72 rfl ?_
    refine x_lstore (pc' := 75) (L' := [some (.long v0), d1, d2, some (.long v3), d4, d5, d6, some (.int v7), some (.long ((1 : Int64) <<< ((Int32.toInt64 v7) &&& 63))), none, d10, d11, d12, d13, d14, d15]) dX3_rounded_73 (Nat.le_of_ble_eq_true rfl) rfl rfl ?_
    refine x_lload_n (pc' := 76) dX3_rounded_75 rfl rfl ?_
    refine x_lload (pc' := 78) dX3_rounded_76 rfl rfl ?_
    refine x_lconst (pc' := 79) (x := 1) dX3_rounded_78 (by decide) rfl ?_
    refine x_lsub (pc' := 80) dX3_rounded_79 rfl ?_
    refine x_land (pc' := 81) dX3_rounded_80 rfl ?_
    refine x_lstore (pc' := 83) (L' := [some (.long v0), d1, d2, some (.long v3), d4, d5, d6, some (.int v7), some (.long ((1 : Int64) <<< ((Int32.toInt64 v7) &&& 63))), none, some (.long (v3 &&& (((1 : Int64) <<< ((Int32.toInt64 v7) &&& 63)) - (1 : Int64)))), none, d12, d13, d14, d15]) dX3_rounded_81 (Nat.le_of_ble_eq_true rfl) rfl rfl ?_
    refine x_lload_n (pc' := 84) dX3_rounded_83 rfl rfl ?_
    refine x_lload (pc' := 86) dX3_rounded_84 rfl rfl ?_
    refine x_lsub (pc' := 87) dX3_rounded_86 rfl ?_
    refine x_lstore (pc' := 89) (L' := [some (.long v0), d1, d2, some (.long v3), d4, d5, d6, some (.int v7), some (.long ((1 : Int64) <<< ((Int32.toInt64 v7) &&& 63))), none, some (.long (v3 &&& (((1 : Int64) <<< ((Int32.toInt64 v7) &&& 63)) - (1 : Int64)))), none, some (.long (v3 - (v3 &&& (((1 : Int64) <<< ((Int32.toInt64 v7) &&& 63)) - (1 : Int64))))), none, d14, d15]) dX3_rounded_87 (Nat.le_of_ble_eq_true rfl) rfl rfl ?_
    refine x_lload (pc' := 91) dX3_rounded_89 rfl rfl ?_
    refine x_iconst (pc' := 92) (x := 1) dX3_rounded_91 (by decide) rfl ?_
    refine x_lshr (pc' := 93) dX3_rounded_92 rfl ?_
    refine x_lstore (pc' := 95) (L' := [some (.long v0), d1, d2, some (.long v3), d4, d5, d6, some (.int v7), some (.long ((1 : Int64) <<< ((Int32.toInt64 v7) &&& 63))), none, some (.long (v3 &&& (((1 : Int64) <<< ((Int32.toInt64 v7) &&& 63)) - (1 : Int64)))), none, some (.long (v3 - (v3 &&& (((1 : Int64) <<< ((Int32.toInt64 v7) &&& 63)) - (1 : Int64))))), none, some (.long (((1 : Int64) <<< ((Int32.toInt64 v7) &&& 63)) >>> ((Int32.toInt64 (1 : Int32)) &&& 63))), none]) dX3_rounded_93 (Nat.le_of_ble_eq_true rfl) rfl rfl ?_
    refine x_lload (pc' := 97) dX3_rounded_95 rfl rfl ?_
    refine x_lload (pc' := 99) dX3_rounded_97 rfl rfl ?_
    refine x_lcmp (pc' := 100) dX3_rounded_99 rfl ?_
    refine xg_ite h (fun g2 h => ?_) (fun g2 h => ?_)
    · refine x_if_gt (tgt := 121) (pc' := 103) dX3_rounded_100 (by decide) rfl (fun _ => ?_) (fun hn => absurd g2 hn)
      exact r_X3_rounded_121 _ _ _ _ _ _ _ _ _ _ _ _ _ _ _ _ _ _ h
    · refine x_if_gt (tgt := 121) (pc' := 103) dX3_rounded_100 (by decide) rfl (fun hn => absurd hn g2) (fun _ => ?_)
      refine x_lload (pc' := 105) dX3_rounded_103 rfl rfl ?_
      refine x_lload (pc' := 107) dX3_rounded_105 rfl rfl ?_
      refine x_lcmp (pc' := 108) dX3_rounded_107 rfl ?_
      refine xg_ite h (fun g3 h => ?_) (fun g3 h => ?_)
      · refine x_if_ne (tgt := 128) (pc' := 111) dX3_rounded_108 (by decide) rfl (fun hn => absurd g3 hn) (fun _ => ?_)
        refine x_lload (pc' := 113) dX3_rounded_111 rfl rfl ?_
        refine x_lload (pc' := 115) dX3_rounded_113 rfl rfl ?_
        refine x_land (pc' := 116) dX3_rounded_115 rfl ?_
        refine x_lconst (pc' := 117) (x := 0) dX3_rounded_116 (by decide) rfl ?_
        refine x_lcmp (pc' := 118) dX3_rounded_117 rfl ?_
        refine xg_ite h (fun g4 h => ?_) (fun g4 h => ?_)
        · refine x_if_eq (tgt := 128) (pc' := 121) dX3_rounded_118 (by decide) rfl (fun _ => ?_) (fun hn => absurd g4 hn)
          exact r_X3_rounded_128 _ _ _ _ _ _ _ _ _ _ _ _ _ _ _ _ _ _ h
        · refine x_if_eq (tgt := 128) (pc' := 121) dX3_rounded_118 (by decide) rfl (fun hn => absurd hn g4) (fun _ => ?_)
          exact r_X3_rounded_121 _ _ _ _ _ _ _ _ _ _ _ _ _ _ _ _ _ _ h
      · refine x_if_ne (tgt := 128) (pc' := 111) dX3_rounded_108 (by decide) rfl (fun _ => ?_) (fun hn => absurd hn g3)
        exact r_X3_rounded_128 _ _ _ _ _ _ _ _ _ _ _ _ _ _ _ _ _ _ h
def F_X3_rounded_39 : Nat → Int64 → Int64 → Int64 → Int32 → Option (Int64)
  | 0, _, _, _, _ => none
  | n + 1, v0, v3, v5, v7 => if (63 : Int32) ≤ v7 then F_X3_rounded_62 v0 v3 v7 else if (lg_cmp (v3 >>> ((Int32.toInt64 v7) &&& 63)) v5) < 0 then F_X3_rounded_62 v0 v3 v7 else (F_X3_rounded_39 n) v0 v3 v5 (v7 + (1))
set_option maxRecDepth 20000 in
set_option maxHeartbeats 2000000 in
theorem r_X3_rounded_39 : ∀ (n : Nat) (v0 : Int64) (v3 : Int64) (v5 : Int64) (v7 : Int32) (d1 : Option Value) (d2 : Option Value) (d4 : Option Value) (d6 : Option Value) (d8 : Option Value) (d9 : Option Value) (d10 : Option Value) (d11 : Option Value) (d12 : Option Value) (d13 : Option Value) (d14 : Option Value) (d15 : Option Value) (H : xHp) (o : Int64), F_X3_rounded_39 n v0 v3 v5 v7 = some o → xR (RX3, cX3_rounded, 16, false, 2) (1, 0, 0) z 0 0 39 [some (.long v0), d1, d2, some (.long v3), d4, some (.long v5), d6, some (.int v7), d8, d9, d10, d11, d12, d13, d14, d15] [] H (some (.long o), H) := by
  intro n
  induction n with
  | zero =>
    intro v0 v3 v5 v7 d1 d2 d4 d6 d8 d9 d10 d11 d12 d13 d14 d15 H o h
    have h : none = some o := h
    cases h
  | succ n ih =>
    intro v0 v3 v5 v7 d1 d2 d4 d6 d8 d9 d10 d11 d12 d13 d14 d15 H o h
    refine x_iload (pc' := 41) dX3_rounded_39 rfl rfl ?_
    refine x_bipush (pc' := 43) (x := 63) dX3_rounded_41 (by decide) rfl ?_
    refine xg_ite h (fun g1 h => ?_) (fun g1 h => ?_)
    · refine x_icmp_ge (tgt := 62) (pc' := 46) dX3_rounded_43 (by decide) rfl (fun _ => ?_) (fun hn => absurd g1 hn)
      exact r_X3_rounded_62 _ _ _ _ _ _ _ _ _ _ _ _ _ _ _ _ _ _ h
    · refine x_icmp_ge (tgt := 62) (pc' := 46) dX3_rounded_43 (by decide) rfl (fun hn => absurd hn g1) (fun _ => ?_)
      refine x_lload_n (pc' := 47) dX3_rounded_46 rfl rfl ?_
      refine x_iload (pc' := 49) dX3_rounded_47 rfl rfl ?_
      refine x_lshr (pc' := 50) dX3_rounded_49 rfl ?_
      refine x_lload (pc' := 52) dX3_rounded_50 rfl rfl ?_
      refine x_lcmp (pc' := 53) dX3_rounded_52 rfl ?_
      refine xg_ite h (fun g2 h => ?_) (fun g2 h => ?_)
      · refine x_if_lt (tgt := 62) (pc' := 56) dX3_rounded_53 (by decide) rfl (fun _ => ?_) (fun hn => absurd g2 hn)
        exact r_X3_rounded_62 _ _ _ _ _ _ _ _ _ _ _ _ _ _ _ _ _ _ h
      · refine x_if_lt (tgt := 62) (pc' := 56) dX3_rounded_53 (by decide) rfl (fun hn => absurd hn g2) (fun _ => ?_)
        refine x_iinc (pc' := 59) (v := (v7 + (1))) (L' := [some (.long v0), d1, d2, some (.long v3), d4, some (.long v5), (xcl d6), some (.int (v7 + (1))), d8, d9, d10, d11, d12, d13, d14, d15]) dX3_rounded_56 rfl rfl (Nat.le_of_ble_eq_true rfl) rfl rfl ?_
        refine x_goto (tgt := 39) dX3_rounded_59 (by decide) ?_
        exact ih _ _ _ _ _ _ _ _ _ _ _ _ _ _ _ _ _ _ h
def F_X3_rounded_33 (v0 : Int64) (v3 : Int64) (s0 : Int64) (s1 : Int32) : Option (Int64) := F_X3_rounded_39 1000000 v0 v3 (s0 <<< ((Int32.toInt64 s1) &&& 63)) (0 : Int32)
set_option maxRecDepth 20000 in
set_option maxHeartbeats 2000000 in
theorem r_X3_rounded_33 (v0 : Int64) (v3 : Int64) (s0 : Int64) (s1 : Int32) (d1 : Option Value) (d2 : Option Value) (d4 : Option Value) (d5 : Option Value) (d6 : Option Value) (d7 : Option Value) (d8 : Option Value) (d9 : Option Value) (d10 : Option Value) (d11 : Option Value) (d12 : Option Value) (d13 : Option Value) (d14 : Option Value) (d15 : Option Value) (H : xHp) (o : Int64) (h : F_X3_rounded_33 v0 v3 s0 s1 = some o) : xR (RX3, cX3_rounded, 16, false, 2) (1, 0, 0) z 0 0 33 [some (.long v0), d1, d2, some (.long v3), d4, d5, d6, d7, d8, d9, d10, d11, d12, d13, d14, d15] [.int s1, .long s0] H (some (.long o), H) := by
  refine x_lshl (pc' := 34) dX3_rounded_33 rfl ?_
  refine x_lstore (pc' := 36) (L' := [some (.long v0), d1, d2, some (.long v3), (xcl d4), some (.long (s0 <<< ((Int32.toInt64 s1) &&& 63))), none, d7, d8, d9, d10, d11, d12, d13, d14, d15]) dX3_rounded_34 (Nat.le_of_ble_eq_true rfl) rfl rfl ?_
  refine x_iconst (pc' := 37) (x := 0) dX3_rounded_36 (by decide) rfl ?_
  refine x_istore (pc' := 39) (L' := [some (.long v0), d1, d2, some (.long v3), (xcl d4), some (.long (s0 <<< ((Int32.toInt64 s1) &&& 63))), none, some (.int (0 : Int32)), d8, d9, d10, d11, d12, d13, d14, d15]) dX3_rounded_37 (Nat.le_of_ble_eq_true rfl) rfl rfl ?_
  exact r_X3_rounded_39 1000000 _ _ _ _ _ _ _ _ _ _ _ _ _ _ _ _ _ _ h
def F_X3_rounded_14 (v0 : Int64) (v2 : Int32) : Option (Int64) := if v2 = (6 : Int32) then F_X3_rounded_33 v0 (if 0 < v0 then v0 else -v0) (1 : Int64) (24 : Int32) else F_X3_rounded_33 v0 (if 0 < v0 then v0 else -v0) (1 : Int64) (53 : Int32)
set_option maxRecDepth 20000 in
set_option maxHeartbeats 2000000 in
theorem r_X3_rounded_14 (v0 : Int64) (v2 : Int32) (d1 : Option Value) (d3 : Option Value) (d4 : Option Value) (d5 : Option Value) (d6 : Option Value) (d7 : Option Value) (d8 : Option Value) (d9 : Option Value) (d10 : Option Value) (d11 : Option Value) (d12 : Option Value) (d13 : Option Value) (d14 : Option Value) (d15 : Option Value) (H : xHp) (o : Int64) (h : F_X3_rounded_14 v0 v2 = some o) : xR (RX3, cX3_rounded, 16, false, 2) (1, 0, 0) z 0 0 14 [some (.long v0), d1, some (.int v2), d3, d4, d5, d6, d7, d8, d9, d10, d11, d12, d13, d14, d15] [] H (some (.long o), H) := by
  refine x_lload_n (pc' := 15) dX3_rounded_14 rfl rfl ?_
  refine x_mabsl (pc' := 18) dX3_rounded_15 ml_X3_20 ma_J9_abs_067f4 mc_math mb_J9_abs_067f4 (Nat.le_of_ble_eq_true rfl) (Nat.le_of_ble_eq_true rfl) (Nat.le_of_ble_eq_true rfl) (Nat.le_of_ble_eq_true rfl) rfl ?_
  refine x_lstore_n (pc' := 19) (L' := [some (.long v0), d1, some (.int v2), some (.long (if 0 < v0 then v0 else -v0)), none, d5, d6, d7, d8, d9, d10, d11, d12, d13, d14, d15]) dX3_rounded_18 (Nat.le_of_ble_eq_true rfl) rfl rfl ?_
  refine x_lconst (pc' := 20) (x := 1) dX3_rounded_19 (by decide) rfl ?_
  refine x_iload_n (pc' := 21) dX3_rounded_20 rfl rfl ?_
  refine x_bipush (pc' := 23) (x := 6) dX3_rounded_21 (by decide) rfl ?_
  refine xg_ite h (fun g1 h => ?_) (fun g1 h => ?_)
  · refine x_icmp_ne (tgt := 31) (pc' := 26) dX3_rounded_23 (by decide) rfl (fun hn => absurd g1 hn) (fun _ => ?_)
    refine x_bipush (pc' := 28) (x := 24) dX3_rounded_26 (by decide) rfl ?_
    refine x_goto (tgt := 33) dX3_rounded_28 (by decide) ?_
    exact r_X3_rounded_33 _ _ _ _ _ _ _ _ _ _ _ _ _ _ _ _ _ _ _ _ h
  · refine x_icmp_ne (tgt := 31) (pc' := 26) dX3_rounded_23 (by decide) rfl (fun _ => ?_) (fun hn => absurd hn g1)
    refine x_bipush (pc' := 33) (x := 53) dX3_rounded_31 (by decide) rfl ?_
    exact r_X3_rounded_33 _ _ _ _ _ _ _ _ _ _ _ _ _ _ _ _ _ _ _ _ h
def F_X3_rounded (v0 : Int64) (v2 : Int32) : Option (Int64) := if v2 = (6 : Int32) then F_X3_rounded_14 v0 v2 else if v2 = (7 : Int32) then F_X3_rounded_14 v0 v2 else some v0
set_option maxRecDepth 20000 in
set_option maxHeartbeats 2000000 in
theorem r_X3_rounded (v0 : Int64) (v2 : Int32) (H : xHp) (o : Int64) (h : F_X3_rounded v0 v2 = some o) : xM yX3_rounded cX3_rounded 16 2 (1, 0, 0) z [.long v0, .int v2] H (some (.long o), H) := by
  refine x_meth2 (C := RX3) (ini := false) (L := [some (.long v0), none, some (.int v2), none, none, none, none, none, none, none, none, none, none, none, none, none]) rfl (by decide) (fun h9 => by cases h9) (by decide) (Nat.le_of_ble_eq_true rfl) rfl ?_
  refine x_iload_n (pc' := 1) dX3_rounded_0 rfl rfl ?_
  refine x_bipush (pc' := 3) (x := 6) dX3_rounded_1 (by decide) rfl ?_
  refine xg_ite h (fun g1 h => ?_) (fun g1 h => ?_)
  · refine x_icmp_eq (tgt := 14) (pc' := 6) dX3_rounded_3 (by decide) rfl (fun _ => ?_) (fun hn => absurd g1 hn)
    exact r_X3_rounded_14 _ _ _ _ _ _ _ _ _ _ _ _ _ _ _ _ _ _ h
  · refine x_icmp_eq (tgt := 14) (pc' := 6) dX3_rounded_3 (by decide) rfl (fun hn => absurd hn g1) (fun _ => ?_)
    refine x_iload_n (pc' := 7) dX3_rounded_6 rfl rfl ?_
    refine x_bipush (pc' := 9) (x := 7) dX3_rounded_7 (by decide) rfl ?_
    refine xg_ite h (fun g2 h => ?_) (fun g2 h => ?_)
    · refine x_icmp_eq (tgt := 14) (pc' := 12) dX3_rounded_9 (by decide) rfl (fun _ => ?_) (fun hn => absurd g2 hn)
      exact r_X3_rounded_14 _ _ _ _ _ _ _ _ _ _ _ _ _ _ _ _ _ _ h
    · refine x_icmp_eq (tgt := 14) (pc' := 12) dX3_rounded_9 (by decide) rfl (fun hn => absurd hn g2) (fun _ => ?_)
      refine x_lload_n (pc' := 13) dX3_rounded_12 rfl rfl ?_
      obtain rfl := Option.some.inj h
      exact x_lret dX3_rounded_13 rfl rfl (Nat.le_of_ble_eq_true rfl) rfl
def F_X6_become (v0 : Nat) (v1 : Int32) (v2 : Int64) (hi : Nat → Nat → Int32) (hl : Nat → Nat → Int64) (r : xRr) : Option (xSt) := if xisO v0 5 = true then xbP (F_X3_rounded v2 v1) (fun w3 => some ((xu hi v0 0 v1), (xu hl v0 1 w3), r)) else none
set_option maxRecDepth 20000 in
set_option maxHeartbeats 2000000 in
theorem r_X6_become (v0 : Nat) (v1 : Int32) (v2 : Int64) (hi : Nat → Nat → Int32) (hl : Nat → Nat → Int64) (r : xRr) (o : xSt) (h : F_X6_become v0 v1 v2 hi hl r = some o) : xM yX6_become cX6_become 4 0 (2, 0, 0) z [.ref v0, .int v1, .long v2] (xhp hi hl r) (xoV o) := by
  refine x_meth2 (C := RX6) (ini := false) (L := [some (.ref v0), some (.int v1), some (.long v2), none]) rfl (by decide) (fun h9 => by cases h9) (by decide) (Nat.le_of_ble_eq_true rfl) rfl ?_
  refine x_aload_n (pc' := 1) dX6_become_0 rfl rfl ?_
  refine x_iload_n (pc' := 2) dX6_become_1 rfl rfl ?_
  refine xg_if h (fun g1 h => ?_)
  refine x_puti (pc' := 5) dX6_become_2 f_X6_9 (Or.inl rfl) (xisO_lt g1) (xisO_sh g1) rfl rfl ?_
  refine x_aload_n (pc' := 6) dX6_become_5 rfl rfl ?_
  refine x_lload_n (pc' := 7) dX6_become_6 rfl rfl ?_
  refine x_iload_n (pc' := 8) dX6_become_7 rfl rfl ?_
  refine xg_bP h (fun w3 e2 h => ?_)
  refine x_callS (pc' := 11) (S := [.ref v0]) (As := [.long v2, .int v1]) (b' := (1, 0, 0)) dX6_become_8 l_X6_15 m_X3_rounded rfl rfl (Nat.le_of_ble_eq_true rfl) (Nat.le_of_ble_eq_true rfl) (Nat.le_of_ble_eq_true rfl) (Nat.le_of_ble_eq_true rfl) (r_X3_rounded _ _ _ _ e2) rfl ?_
  refine x_putl (pc' := 14) dX6_become_11 f_X6_21 (Or.inl rfl) (xisO_lt g1) (xisO_sh g1) rfl rfl ?_
  obtain rfl := Option.some.inj h
  exact x_vret dX6_become_14 rfl rfl (Nat.le_of_ble_eq_true rfl) rfl
def F_X0_fetch (v1 : Int32) (v2 : Int32) (v3 : Nat) (hi : Nat → Nat → Int32) (hl : Nat → Nat → Int64) (r : xRr) : Option (xSt) := if xok ((v1 * (12 : Int32)) + v2) 72 = true then if xisO v3 5 = true then xbV (F_X6_become v3 (hi 3 (Int32.toNatClampNeg ((v1 * (12 : Int32)) + v2))) (hl 4 (Int32.toNatClampNeg ((v1 * (12 : Int32)) + v2))) hi hl r) (fun hi3 hl3 r3 => some (hi3, hl3, r3)) else none else none
set_option maxRecDepth 20000 in
set_option maxHeartbeats 2000000 in
theorem r_X0_fetch (v1 : Int32) (v2 : Int32) (v3 : Nat) (hi : Nat → Nat → Int32) (hl : Nat → Nat → Int64) (r : xRr) (o : xSt) (h : F_X0_fetch v1 v2 v3 hi hl r = some o) : xM yX0_fetch cX0_fetch 4 0 (3, 0, 0) z [.ref 1, .int v1, .int v2, .ref v3] (xhp hi hl r) (xoV o) := by
  refine x_meth2 (C := RX0) (ini := false) (L := [some (.ref 1), some (.int v1), some (.int v2), some (.ref v3)]) rfl (by decide) (fun h9 => by cases h9) (by decide) (Nat.le_of_ble_eq_true rfl) rfl ?_
  refine x_aload_n (pc' := 1) dX0_fetch_0 rfl rfl ?_
  refine x_aload_n (pc' := 2) dX0_fetch_1 rfl rfl ?_
  refine x_getr (pc' := 5) (t := 3) dX0_fetch_2 f_X0_15 (by decide) rfl rfl rfl rfl ?_
  refine x_iload_n (pc' := 6) dX0_fetch_5 rfl rfl ?_
  refine x_bipush (pc' := 8) (x := 12) dX0_fetch_6 (by decide) rfl ?_
  refine x_imul (pc' := 9) dX0_fetch_8 rfl ?_
  refine x_iload_n (pc' := 10) dX0_fetch_9 rfl rfl ?_
  refine x_iadd (pc' := 11) dX0_fetch_10 rfl ?_
  refine xg_if h (fun g1 h => ?_)
  refine x_iald (pc' := 12) dX0_fetch_11 (by decide) rfl (xok_in g1) rfl ?_
  refine x_aload_n (pc' := 13) dX0_fetch_12 rfl rfl ?_
  refine x_getr (pc' := 16) (t := 4) dX0_fetch_13 f_X0_18 (by decide) rfl rfl rfl rfl ?_
  refine x_iload_n (pc' := 17) dX0_fetch_16 rfl rfl ?_
  refine x_bipush (pc' := 19) (x := 12) dX0_fetch_17 (by decide) rfl ?_
  refine x_imul (pc' := 20) dX0_fetch_19 rfl ?_
  refine x_iload_n (pc' := 21) dX0_fetch_20 rfl rfl ?_
  refine x_iadd (pc' := 22) dX0_fetch_21 rfl ?_
  refine x_lald (pc' := 23) dX0_fetch_22 (by decide) rfl (xok_in g1) rfl ?_
  refine xg_if h (fun g4 h => ?_)
  refine xg_bV h (fun hi3 hl3 r3 e2 h => ?_)
  refine x_callV (pc' := 26) (S := []) (As := [.int (hi 3 (Int32.toNatClampNeg ((v1 * (12 : Int32)) + v2))), .long (hl 4 (Int32.toNatClampNeg ((v1 * (12 : Int32)) + v2)))]) (b' := (2, 0, 0)) dX0_fetch_23 l_X0_29 m_X6_become rfl rfl (xisO_lt g4) (xisO_sh g4) (Nat.le_of_ble_eq_true rfl) (Nat.le_of_ble_eq_true rfl) (Nat.le_of_ble_eq_true rfl) (Nat.le_of_ble_eq_true rfl) (r_X6_become _ _ _ _ _ _ _ e2) rfl ?_
  obtain rfl := Option.some.inj h
  exact x_vret dX0_fetch_26 rfl rfl (Nat.le_of_ble_eq_true rfl) rfl
def F_X6_enter (v0 : Nat) (v1 : Int32) (hi : Nat → Nat → Int32) (hl : Nat → Nat → Int64) (r : xRr) : Option (xSt) := if (7 : Int32) < v1 then some (hi, hl, r) else if xisO v0 5 = true then xbP (F_X3_rounded (hl v0 1) v1) (fun w4 => some ((xu hi v0 0 v1), (xu hl v0 1 w4), r)) else none
set_option maxRecDepth 20000 in
set_option maxHeartbeats 2000000 in
theorem r_X6_enter (v0 : Nat) (v1 : Int32) (hi : Nat → Nat → Int32) (hl : Nat → Nat → Int64) (r : xRr) (o : xSt) (h : F_X6_enter v0 v1 hi hl r = some o) : xM yX6_enter cX6_enter 2 0 (2, 0, 0) z [.ref v0, .int v1] (xhp hi hl r) (xoV o) := by
  refine x_meth2 (C := RX6) (ini := false) (L := [some (.ref v0), some (.int v1)]) rfl (by decide) (fun h9 => by cases h9) (by decide) (Nat.le_of_ble_eq_true rfl) rfl ?_
  refine x_iload_n (pc' := 1) dX6_enter_0 rfl rfl ?_
  refine x_bipush (pc' := 3) (x := 7) dX6_enter_1 (by decide) rfl ?_
  refine xg_ite h (fun g1 h => ?_) (fun g1 h => ?_)
  · refine x_icmp_gt (tgt := 23) (pc' := 6) dX6_enter_3 (by decide) rfl (fun _ => ?_) (fun hn => absurd g1 hn)
    obtain rfl := Option.some.inj h
    exact x_vret dX6_enter_23 rfl rfl (Nat.le_of_ble_eq_true rfl) rfl
  · refine x_icmp_gt (tgt := 23) (pc' := 6) dX6_enter_3 (by decide) rfl (fun hn => absurd hn g1) (fun _ => ?_)
    refine x_aload_n (pc' := 7) dX6_enter_6 rfl rfl ?_
    refine x_iload_n (pc' := 8) dX6_enter_7 rfl rfl ?_
    refine xg_if h (fun g2 h => ?_)
    refine x_puti (pc' := 11) dX6_enter_8 f_X6_9 (Or.inl rfl) (xisO_lt g2) (xisO_sh g2) rfl rfl ?_
    refine x_aload_n (pc' := 12) dX6_enter_11 rfl rfl ?_
    refine x_aload_n (pc' := 13) dX6_enter_12 rfl rfl ?_
    refine x_getl (pc' := 16) dX6_enter_13 f_X6_21 (xisO_lt g2) (xisO_sh g2) rfl rfl ?_
    refine x_iload_n (pc' := 17) dX6_enter_16 rfl rfl ?_
    refine xg_bP h (fun w4 e3 h => ?_)
    refine x_callS (pc' := 20) (S := [.ref v0]) (As := [.long (hl v0 1), .int v1]) (b' := (1, 0, 0)) dX6_enter_17 l_X6_15 m_X3_rounded rfl rfl (Nat.le_of_ble_eq_true rfl) (Nat.le_of_ble_eq_true rfl) (Nat.le_of_ble_eq_true rfl) (Nat.le_of_ble_eq_true rfl) (r_X3_rounded _ _ _ _ e3) rfl ?_
    refine x_putl (pc' := 23) dX6_enter_20 f_X6_21 (Or.inl rfl) (xisO_lt g2) (xisO_sh g2) rfl rfl ?_
    obtain rfl := Option.some.inj h
    exact x_vret dX6_enter_23 rfl rfl (Nat.le_of_ble_eq_true rfl) rfl
def F_X0_store (v1 : Int32) (v2 : Int32) (v3 : Nat) (hi : Nat → Nat → Int32) (hl : Nat → Nat → Int64) (r : xRr) : Option (xSt) := if xok v1 6 = true then if xisO v3 5 = true then xbV (F_X6_enter v3 (hi 2 (Int32.toNatClampNeg v1)) hi hl r) (fun hi3 hl3 r3 => if xok ((v1 * (12 : Int32)) + v2) 72 = true then some ((xu hi3 3 (Int32.toNatClampNeg ((v1 * (12 : Int32)) + v2)) (hi3 v3 0)), (xu hl3 4 (Int32.toNatClampNeg ((v1 * (12 : Int32)) + v2)) (hl3 v3 1)), r3) else none) else none else none
set_option maxRecDepth 20000 in
set_option maxHeartbeats 2000000 in
theorem r_X0_store (v1 : Int32) (v2 : Int32) (v3 : Nat) (hi : Nat → Nat → Int32) (hl : Nat → Nat → Int64) (r : xRr) (o : xSt) (h : F_X0_store v1 v2 v3 hi hl r = some o) : xM yX0_store cX0_store 4 0 (3, 0, 0) z [.ref 1, .int v1, .int v2, .ref v3] (xhp hi hl r) (xoV o) := by
  refine x_meth2 (C := RX0) (ini := false) (L := [some (.ref 1), some (.int v1), some (.int v2), some (.ref v3)]) rfl (by decide) (fun h9 => by cases h9) (by decide) (Nat.le_of_ble_eq_true rfl) rfl ?_
  refine x_aload_n (pc' := 1) dX0_store_0 rfl rfl ?_
  refine x_aload_n (pc' := 2) dX0_store_1 rfl rfl ?_
  refine x_getr (pc' := 5) (t := 2) dX0_store_2 f_X0_9 (by decide) rfl rfl rfl rfl ?_
  refine x_iload_n (pc' := 6) dX0_store_5 rfl rfl ?_
  refine xg_if h (fun g1 h => ?_)
  refine x_iald (pc' := 7) dX0_store_6 (by decide) rfl (xok_in g1) rfl ?_
  refine xg_if h (fun g4 h => ?_)
  refine xg_bV h (fun hi3 hl3 r3 e2 h => ?_)
  refine x_callV (pc' := 10) (S := []) (As := [.int (hi 2 (Int32.toNatClampNeg v1))]) (b' := (2, 0, 0)) dX0_store_7 l_X0_35 m_X6_enter rfl rfl (xisO_lt g4) (xisO_sh g4) (Nat.le_of_ble_eq_true rfl) (Nat.le_of_ble_eq_true rfl) (Nat.le_of_ble_eq_true rfl) (Nat.le_of_ble_eq_true rfl) (r_X6_enter _ _ _ _ _ _ e2) rfl ?_
  refine x_aload_n (pc' := 11) dX0_store_10 rfl rfl ?_
  refine x_getr (pc' := 14) (t := 3) dX0_store_11 f_X0_15 (by decide) rfl rfl rfl rfl ?_
  refine x_iload_n (pc' := 15) dX0_store_14 rfl rfl ?_
  refine x_bipush (pc' := 17) (x := 12) dX0_store_15 (by decide) rfl ?_
  refine x_imul (pc' := 18) dX0_store_17 rfl ?_
  refine x_iload_n (pc' := 19) dX0_store_18 rfl rfl ?_
  refine x_iadd (pc' := 20) dX0_store_19 rfl ?_
  refine x_aload_n (pc' := 21) dX0_store_20 rfl rfl ?_
  refine x_geti (pc' := 24) dX0_store_21 f_X0_39 (xisO_lt g4) (xisO_sh g4) rfl rfl ?_
  refine xg_if h (fun g5 h => ?_)
  refine x_iast (pc' := 25) dX0_store_24 (by decide) rfl (xok_in g5) rfl ?_
  refine x_aload_n (pc' := 26) dX0_store_25 rfl rfl ?_
  refine x_getr (pc' := 29) (t := 4) dX0_store_26 f_X0_18 (by decide) rfl rfl rfl rfl ?_
  refine x_iload_n (pc' := 30) dX0_store_29 rfl rfl ?_
  refine x_bipush (pc' := 32) (x := 12) dX0_store_30 (by decide) rfl ?_
  refine x_imul (pc' := 33) dX0_store_32 rfl ?_
  refine x_iload_n (pc' := 34) dX0_store_33 rfl rfl ?_
  refine x_iadd (pc' := 35) dX0_store_34 rfl ?_
  refine x_aload_n (pc' := 36) dX0_store_35 rfl rfl ?_
  refine x_getl (pc' := 39) dX0_store_36 f_X0_42 (xisO_lt g4) (xisO_sh g4) rfl rfl ?_
  refine x_last (pc' := 40) dX0_store_39 (by decide) rfl (xok_in g5) rfl ?_
  obtain rfl := Option.some.inj h
  exact x_vret dX0_store_40 rfl rfl (Nat.le_of_ble_eq_true rfl) rfl
def F_X1_lose (hi : Nat → Nat → Int32) (hl : Nat → Nat → Int64) (r : xRr) : Option (xSt) := some ((xu hi 41 3 (0 : Int32)), hl, r)
set_option maxRecDepth 20000 in
set_option maxHeartbeats 2000000 in
theorem r_X1_lose (hi : Nat → Nat → Int32) (hl : Nat → Nat → Int64) (r : xRr) (o : xSt) (h : F_X1_lose hi hl r = some o) : xM yX1_lose cX1_lose 1 0 (0, 0, 0) z [.ref 41] (xhp hi hl r) (xoV o) := by
  refine x_meth2 (C := RX1) (ini := false) (L := [some (.ref 41)]) rfl (by decide) (fun h9 => by cases h9) (by decide) (Nat.le_of_ble_eq_true rfl) rfl ?_
  refine x_aload_n (pc' := 1) dX1_lose_0 rfl rfl ?_
  refine x_iconst (pc' := 2) (x := 0) dX1_lose_1 (by decide) rfl ?_
  refine x_puti (pc' := 5) dX1_lose_2 f_X1_22 (Or.inl rfl) (by decide) rfl rfl rfl ?_
  obtain rfl := Option.some.inj h
  exact x_vret dX1_lose_5 rfl rfl (Nat.le_of_ble_eq_true rfl) rfl
def F_X2_record (v0 : Nat) (hi : Nat → Nat → Int32) (hl : Nat → Nat → Int64) (r : xRr) : Option (xSt) := if xisO v0 2 = true then xbO (xhr r v0 0) (fun t2 => if xcpG 3 t2 0 (0 : Int32) (0 : Int32) (((xu hi v0 2 (hi 1 4)) v0 2) * (12 : Int32)) = true then xbO (xhr r v0 1) (fun t5 => if xcpG 4 t5 1 (0 : Int32) (0 : Int32) (((xcp (xu hi v0 2 (hi 1 4)) 3 t2 (Int32.toNatClampNeg (0 : Int32)) (Int32.toNatClampNeg (0 : Int32)) (Int32.toNatClampNeg (((xu hi v0 2 (hi 1 4)) v0 2) * (12 : Int32)))) v0 2) * (12 : Int32)) = true then some ((xcp (xu hi v0 2 (hi 1 4)) 3 t2 (Int32.toNatClampNeg (0 : Int32)) (Int32.toNatClampNeg (0 : Int32)) (Int32.toNatClampNeg (((xu hi v0 2 (hi 1 4)) v0 2) * (12 : Int32)))), (xcp hl 4 t5 (Int32.toNatClampNeg (0 : Int32)) (Int32.toNatClampNeg (0 : Int32)) (Int32.toNatClampNeg (((xcp (xu hi v0 2 (hi 1 4)) 3 t2 (Int32.toNatClampNeg (0 : Int32)) (Int32.toNatClampNeg (0 : Int32)) (Int32.toNatClampNeg (((xu hi v0 2 (hi 1 4)) v0 2) * (12 : Int32)))) v0 2) * (12 : Int32)))), r) else none) else none) else none
set_option maxRecDepth 20000 in
set_option maxHeartbeats 2000000 in
theorem r_X2_record (v0 : Nat) (hi : Nat → Nat → Int32) (hl : Nat → Nat → Int64) (r : xRr) (o : xSt) (h : F_X2_record v0 hi hl r = some o) : xM yX2_record cX2_record 2 0 (1, 0, 0) z [.ref v0, .ref 1] (xhp hi hl r) (xoV o) := by
  refine x_meth2 (C := RX2) (ini := false) (L := [some (.ref v0), some (.ref 1)]) rfl (by decide) (fun h9 => by cases h9) (by decide) (Nat.le_of_ble_eq_true rfl) rfl ?_
  refine x_aload_n (pc' := 1) dX2_record_0 rfl rfl ?_
  refine x_aload_n (pc' := 2) dX2_record_1 rfl rfl ?_
  refine x_geti (pc' := 5) dX2_record_2 f_X2_23 (by decide) rfl rfl rfl ?_
  refine xg_if h (fun g1 h => ?_)
  refine x_puti (pc' := 8) dX2_record_5 f_X2_19 (Or.inl rfl) (xisO_lt g1) (xisO_sh g1) rfl rfl ?_
  refine x_aload_n (pc' := 9) dX2_record_8 rfl rfl ?_
  refine x_getr (pc' := 12) (t := 3) dX2_record_9 f_X2_26 (by decide) rfl rfl rfl rfl ?_
  refine x_iconst (pc' := 13) (x := 0) dX2_record_12 (by decide) rfl ?_
  refine x_aload_n (pc' := 14) dX2_record_13 rfl rfl ?_
  refine xg_bO h (fun t2 e3 h => ?_)
  refine x_getr (pc' := 17) (t := t2) dX2_record_14 f_X2_9 (xisO_lt g1) (xisO_sh g1) rfl e3 rfl ?_
  refine x_iconst (pc' := 18) (x := 0) dX2_record_17 (by decide) rfl ?_
  refine x_aload_n (pc' := 19) dX2_record_18 rfl rfl ?_
  refine x_geti (pc' := 22) dX2_record_19 f_X2_19 (xisO_lt g1) (xisO_sh g1) rfl rfl ?_
  refine x_bipush (pc' := 24) (x := 12) dX2_record_22 (by decide) rfl ?_
  refine x_imul (pc' := 25) dX2_record_24 rfl ?_
  refine xg_if h (fun g4 h => ?_)
  refine x_copi (pc' := 28) dX2_record_25 l_X2_27 w_nat w_acs w_sys (xcpG_1 g4) (xcpG_2 g4) (xcpG_3 g4) (xcpG_4 g4) (xcpG_5 g4) (Nat.le_of_ble_eq_true rfl) (Nat.le_of_ble_eq_true rfl) rfl ?_
  refine x_aload_n (pc' := 29) dX2_record_28 rfl rfl ?_
  refine x_getr (pc' := 32) (t := 4) dX2_record_29 f_X2_33 (by decide) rfl rfl rfl rfl ?_
  refine x_iconst (pc' := 33) (x := 0) dX2_record_32 (by decide) rfl ?_
  refine x_aload_n (pc' := 34) dX2_record_33 rfl rfl ?_
  refine xg_bO h (fun t5 e6 h => ?_)
  refine x_getr (pc' := 37) (t := t5) dX2_record_34 f_X2_15 (xisO_lt g1) (xisO_sh g1) rfl e6 rfl ?_
  refine x_iconst (pc' := 38) (x := 0) dX2_record_37 (by decide) rfl ?_
  refine x_aload_n (pc' := 39) dX2_record_38 rfl rfl ?_
  refine x_geti (pc' := 42) dX2_record_39 f_X2_19 (xisO_lt g1) (xisO_sh g1) rfl rfl ?_
  refine x_bipush (pc' := 44) (x := 12) dX2_record_42 (by decide) rfl ?_
  refine x_imul (pc' := 45) dX2_record_44 rfl ?_
  refine xg_if h (fun g7 h => ?_)
  refine x_copl (pc' := 48) dX2_record_45 l_X2_27 w_nat w_acs w_sys (xcpG_1 g7) (xcpG_2 g7) (xcpG_3 g7) (xcpG_4 g7) (xcpG_5 g7) (Nat.le_of_ble_eq_true rfl) (Nat.le_of_ble_eq_true rfl) rfl ?_
  obtain rfl := Option.some.inj h
  exact x_vret dX2_record_48 rfl rfl (Nat.le_of_ble_eq_true rfl) rfl
def F_X1_mark (hi : Nat → Nat → Int32) (hl : Nat → Nat → Int64) (r : xRr) : Option (xSt) := if xisO r.1 2 = true then xbV (F_X2_record r.1 hi hl r) (fun hi2 hl2 r2 => some (hi2, hl2, r2)) else none
set_option maxRecDepth 20000 in
set_option maxHeartbeats 2000000 in
theorem r_X1_mark (hi : Nat → Nat → Int32) (hl : Nat → Nat → Int64) (r : xRr) (o : xSt) (h : F_X1_mark hi hl r = some o) : xM yX1_mark cX1_mark 2 0 (2, 0, 0) z [.ref 41, .ref 1] (xhp hi hl r) (xoV o) := by
  refine x_meth2 (C := RX1) (ini := false) (L := [some (.ref 41), some (.ref 1)]) rfl (by decide) (fun h9 => by cases h9) (by decide) (Nat.le_of_ble_eq_true rfl) rfl ?_
  refine x_aload_n (pc' := 1) dX1_mark_0 rfl rfl ?_
  refine x_getr (pc' := 4) (t := r.1) dX1_mark_1 f_X1_18 (by decide) rfl rfl rfl rfl ?_
  refine x_aload_n (pc' := 5) dX1_mark_4 rfl rfl ?_
  refine xg_if h (fun g3 h => ?_)
  refine xg_bV h (fun hi2 hl2 r2 e1 h => ?_)
  refine x_callV (pc' := 8) (S := []) (As := [.ref 1]) (b' := (1, 0, 0)) dX1_mark_5 l_X1_26 m_X2_record rfl rfl (xisO_lt g3) (xisO_sh g3) (Nat.le_of_ble_eq_true rfl) (Nat.le_of_ble_eq_true rfl) (Nat.le_of_ble_eq_true rfl) (Nat.le_of_ble_eq_true rfl) (r_X2_record _ _ _ _ _ e1) rfl ?_
  obtain rfl := Option.some.inj h
  exact x_vret dX1_mark_8 rfl rfl (Nat.le_of_ble_eq_true rfl) rfl
def F_X1_keepMark (hi : Nat → Nat → Int32) (hl : Nat → Nat → Int64) (r : xRr) : Option (xSt) := if xok (hi 41 2) 10 = true then xbO (xhr r 42 (Int32.toNatClampNeg (hi 41 2))) (fun t2 => if xisO r.1 2 = true then if (10 : Int32) = 0 then none else some ((xu (xu hi 41 2 (((hi 41 2) + (1 : Int32)) - ((hi 41 2) + (1 : Int32)) / (10 : Int32) * (10 : Int32))) 41 3 (if (10 : Int32) < (((xu hi 41 2 (((hi 41 2) + (1 : Int32)) - ((hi 41 2) + (1 : Int32)) / (10 : Int32) * (10 : Int32))) 41 3) + (1 : Int32)) then (10 : Int32) else (((xu hi 41 2 (((hi 41 2) + (1 : Int32)) - ((hi 41 2) + (1 : Int32)) / (10 : Int32) * (10 : Int32))) 41 3) + (1 : Int32)))), hl, (t2, (r.1, va_up r.2 (Int32.toNatClampNeg (hi 41 2)) (some r.1)).2)) else none) else none
set_option maxRecDepth 20000 in
set_option maxHeartbeats 2000000 in
theorem r_X1_keepMark (hi : Nat → Nat → Int32) (hl : Nat → Nat → Int64) (r : xRr) (o : xSt) (h : F_X1_keepMark hi hl r = some o) : xM yX1_keepMark cX1_keepMark 2 0 (1, 0, 0) z [.ref 41] (xhp hi hl r) (xoV o) := by
  refine x_meth2 (C := RX1) (ini := false) (L := [some (.ref 41), none]) rfl (by decide) (fun h9 => by cases h9) (by decide) (Nat.le_of_ble_eq_true rfl) rfl ?_
  refine x_aload_n (pc' := 1) dX1_keepMark_0 rfl rfl ?_
  refine x_getr (pc' := 4) (t := 42) dX1_keepMark_1 f_X1_11 (by decide) rfl rfl rfl rfl ?_
  refine x_aload_n (pc' := 5) dX1_keepMark_4 rfl rfl ?_
  refine x_geti (pc' := 8) dX1_keepMark_5 f_X1_30 (by decide) rfl rfl rfl ?_
  refine xg_if h (fun g1 h => ?_)
  refine xg_bO h (fun t2 e3 h => ?_)
  refine x_aald3 (pc' := 9) (t := t2) dX1_keepMark_8 (by decide) rfl (xok_in g1) e3 rfl ?_
  refine x_astore_n (pc' := 10) (L' := [some (.ref 41), some (.ref t2)]) dX1_keepMark_9 (Nat.le_of_ble_eq_true rfl) rfl rfl ?_
  refine x_aload_n (pc' := 11) dX1_keepMark_10 rfl rfl ?_
  refine x_getr (pc' := 14) (t := 42) dX1_keepMark_11 f_X1_11 (by decide) rfl rfl rfl rfl ?_
  refine x_aload_n (pc' := 15) dX1_keepMark_14 rfl rfl ?_
  refine x_geti (pc' := 18) dX1_keepMark_15 f_X1_30 (by decide) rfl rfl rfl ?_
  refine x_aload_n (pc' := 19) dX1_keepMark_18 rfl rfl ?_
  refine x_getr (pc' := 22) (t := r.1) dX1_keepMark_19 f_X1_18 (by decide) rfl rfl rfl rfl ?_
  refine xg_if h (fun g4 h => ?_)
  refine x_aast3 (pc' := 23) dX1_keepMark_22 (by decide) rfl (xok_in g1) (xisO_lt g4) (xisO_sh g4) rfl ?_
  rw [xhr_ring]
  refine x_aload_n (pc' := 24) dX1_keepMark_23 rfl rfl ?_
  refine x_aload_n (pc' := 25) dX1_keepMark_24 rfl rfl ?_
  refine x_putr (pc' := 28) (Or.inl ⟨_, rfl⟩) dX1_keepMark_25 f_X1_18 (Or.inl rfl) (by decide) rfl rfl rfl ?_
  rw [xhr_mark]
  refine x_aload_n (pc' := 29) dX1_keepMark_28 rfl rfl ?_
  refine x_aload_n (pc' := 30) dX1_keepMark_29 rfl rfl ?_
  refine x_geti (pc' := 33) dX1_keepMark_30 f_X1_30 (by decide) rfl rfl rfl ?_
  refine x_iconst (pc' := 34) (x := 1) dX1_keepMark_33 (by decide) rfl ?_
  refine x_iadd (pc' := 35) dX1_keepMark_34 rfl ?_
  refine x_bipush (pc' := 37) (x := 10) dX1_keepMark_35 (by decide) rfl ?_
  refine xg_nz h (fun g5 h => ?_)
  refine x_irem (pc' := 38) dX1_keepMark_37 g5 rfl ?_
  refine x_puti (pc' := 41) dX1_keepMark_38 f_X1_30 (Or.inl rfl) (by decide) rfl rfl rfl ?_
  refine x_aload_n (pc' := 42) dX1_keepMark_41 rfl rfl ?_
  refine x_aload_n (pc' := 43) dX1_keepMark_42 rfl rfl ?_
  refine x_geti (pc' := 46) dX1_keepMark_43 f_X1_22 (by decide) rfl rfl rfl ?_
  refine x_iconst (pc' := 47) (x := 1) dX1_keepMark_46 (by decide) rfl ?_
  refine x_iadd (pc' := 48) dX1_keepMark_47 rfl ?_
  refine x_bipush (pc' := 50) (x := 10) dX1_keepMark_48 (by decide) rfl ?_
  refine x_mmin (pc' := 53) dX1_keepMark_50 ml_X1_33 ma_J9_min_7cf53 mc_math mb_J9_min_7cf53 (Nat.le_of_ble_eq_true rfl) (Nat.le_of_ble_eq_true rfl) (Nat.le_of_ble_eq_true rfl) (Nat.le_of_ble_eq_true rfl) rfl ?_
  refine x_puti (pc' := 56) dX1_keepMark_53 f_X1_22 (Or.inl rfl) (by decide) rfl rfl rfl ?_
  obtain rfl := Option.some.inj h
  exact x_vret dX1_keepMark_56 rfl rfl (Nat.le_of_ble_eq_true rfl) rfl
def F_X2_restore (v0 : Nat) (hi : Nat → Nat → Int32) (hl : Nat → Nat → Int64) (r : xRr) : Option (xSt) := if xisO v0 2 = true then xbO (xhr r v0 0) (fun t2 => if xcpG t2 3 0 (0 : Int32) (0 : Int32) ((if (0 : Int32) < (hi v0 2) then (hi v0 2) else (0 : Int32)) * (12 : Int32)) = true then xbO (xhr r v0 1) (fun t5 => if xcpG t5 4 1 (0 : Int32) (0 : Int32) ((if (0 : Int32) < (hi v0 2) then (hi v0 2) else (0 : Int32)) * (12 : Int32)) = true then some ((xcp hi t2 3 (Int32.toNatClampNeg (0 : Int32)) (Int32.toNatClampNeg (0 : Int32)) (Int32.toNatClampNeg ((if (0 : Int32) < (hi v0 2) then (hi v0 2) else (0 : Int32)) * (12 : Int32)))), (xcp hl t5 4 (Int32.toNatClampNeg (0 : Int32)) (Int32.toNatClampNeg (0 : Int32)) (Int32.toNatClampNeg ((if (0 : Int32) < (hi v0 2) then (hi v0 2) else (0 : Int32)) * (12 : Int32)))), r) else none) else none) else none
set_option maxRecDepth 20000 in
set_option maxHeartbeats 2000000 in
theorem r_X2_restore (v0 : Nat) (hi : Nat → Nat → Int32) (hl : Nat → Nat → Int64) (r : xRr) (o : xSt) (h : F_X2_restore v0 hi hl r = some o) : xM yX2_restore cX2_restore 3 0 (1, 0, 0) z [.ref v0, .ref 1] (xhp hi hl r) (xoV o) := by
  refine x_meth2 (C := RX2) (ini := false) (L := [some (.ref v0), some (.ref 1), none]) rfl (by decide) (fun h9 => by cases h9) (by decide) (Nat.le_of_ble_eq_true rfl) rfl ?_
  refine x_iconst (pc' := 1) (x := 0) dX2_restore_0 (by decide) rfl ?_
  refine x_aload_n (pc' := 2) dX2_restore_1 rfl rfl ?_
  refine xg_if h (fun g1 h => ?_)
  refine x_geti (pc' := 5) dX2_restore_2 f_X2_19 (xisO_lt g1) (xisO_sh g1) rfl rfl ?_
  refine x_mmax (pc' := 8) dX2_restore_5 ml_X2_34 ma_J9_max_7cf53 mc_math mb_J9_max_7cf53 (Nat.le_of_ble_eq_true rfl) (Nat.le_of_ble_eq_true rfl) (Nat.le_of_ble_eq_true rfl) (Nat.le_of_ble_eq_true rfl) rfl ?_
  refine x_istore_n (pc' := 9) (L' := [some (.ref v0), some (.ref 1), some (.int (if (0 : Int32) < (hi v0 2) then (hi v0 2) else (0 : Int32)))]) dX2_restore_8 (Nat.le_of_ble_eq_true rfl) rfl rfl ?_
  refine x_aload_n (pc' := 10) dX2_restore_9 rfl rfl ?_
  refine xg_bO h (fun t2 e3 h => ?_)
  refine x_getr (pc' := 13) (t := t2) dX2_restore_10 f_X2_9 (xisO_lt g1) (xisO_sh g1) rfl e3 rfl ?_
  refine x_iconst (pc' := 14) (x := 0) dX2_restore_13 (by decide) rfl ?_
  refine x_aload_n (pc' := 15) dX2_restore_14 rfl rfl ?_
  refine x_getr (pc' := 18) (t := 3) dX2_restore_15 f_X2_26 (by decide) rfl rfl rfl rfl ?_
  refine x_iconst (pc' := 19) (x := 0) dX2_restore_18 (by decide) rfl ?_
  refine x_iload_n (pc' := 20) dX2_restore_19 rfl rfl ?_
  refine x_bipush (pc' := 22) (x := 12) dX2_restore_20 (by decide) rfl ?_
  refine x_imul (pc' := 23) dX2_restore_22 rfl ?_
  refine xg_if h (fun g4 h => ?_)
  refine x_copi (pc' := 26) dX2_restore_23 l_X2_27 w_nat w_acs w_sys (xcpG_1 g4) (xcpG_2 g4) (xcpG_3 g4) (xcpG_4 g4) (xcpG_5 g4) (Nat.le_of_ble_eq_true rfl) (Nat.le_of_ble_eq_true rfl) rfl ?_
  refine x_aload_n (pc' := 27) dX2_restore_26 rfl rfl ?_
  refine xg_bO h (fun t5 e6 h => ?_)
  refine x_getr (pc' := 30) (t := t5) dX2_restore_27 f_X2_15 (xisO_lt g1) (xisO_sh g1) rfl e6 rfl ?_
  refine x_iconst (pc' := 31) (x := 0) dX2_restore_30 (by decide) rfl ?_
  refine x_aload_n (pc' := 32) dX2_restore_31 rfl rfl ?_
  refine x_getr (pc' := 35) (t := 4) dX2_restore_32 f_X2_33 (by decide) rfl rfl rfl rfl ?_
  refine x_iconst (pc' := 36) (x := 0) dX2_restore_35 (by decide) rfl ?_
  refine x_iload_n (pc' := 37) dX2_restore_36 rfl rfl ?_
  refine x_bipush (pc' := 39) (x := 12) dX2_restore_37 (by decide) rfl ?_
  refine x_imul (pc' := 40) dX2_restore_39 rfl ?_
  refine xg_if h (fun g7 h => ?_)
  refine x_copl (pc' := 43) dX2_restore_40 l_X2_27 w_nat w_acs w_sys (xcpG_1 g7) (xcpG_2 g7) (xcpG_3 g7) (xcpG_4 g7) (xcpG_5 g7) (Nat.le_of_ble_eq_true rfl) (Nat.le_of_ble_eq_true rfl) rfl ?_
  obtain rfl := Option.some.inj h
  exact x_vret dX2_restore_43 rfl rfl (Nat.le_of_ble_eq_true rfl) rfl
def F_X1_stepBack (hi : Nat → Nat → Int32) (hl : Nat → Nat → Int64) (r : xRr) : Option (xSt) := if (10 : Int32) = 0 then none else if xok ((xu hi 41 2 ((((hi 41 2) + (10 : Int32)) - (1 : Int32)) - (((hi 41 2) + (10 : Int32)) - (1 : Int32)) / (10 : Int32) * (10 : Int32))) 41 2) 10 = true then xbO (xhr r 42 (Int32.toNatClampNeg ((xu hi 41 2 ((((hi 41 2) + (10 : Int32)) - (1 : Int32)) - (((hi 41 2) + (10 : Int32)) - (1 : Int32)) / (10 : Int32) * (10 : Int32))) 41 2))) (fun t3 => if xisO t3 2 = true then xbV (F_X2_restore t3 (xu hi 41 2 ((((hi 41 2) + (10 : Int32)) - (1 : Int32)) - (((hi 41 2) + (10 : Int32)) - (1 : Int32)) / (10 : Int32) * (10 : Int32))) hl r) (fun hi6 hl6 r6 => some ((xu hi6 41 3 ((hi6 41 3) - (1 : Int32))), hl6, r6)) else none) else none
set_option maxRecDepth 20000 in
set_option maxHeartbeats 2000000 in
theorem r_X1_stepBack (hi : Nat → Nat → Int32) (hl : Nat → Nat → Int64) (r : xRr) (o : xSt) (h : F_X1_stepBack hi hl r = some o) : xM yX1_stepBack cX1_stepBack 2 0 (2, 0, 0) z [.ref 41, .ref 1] (xhp hi hl r) (xoV o) := by
  refine x_meth2 (C := RX1) (ini := false) (L := [some (.ref 41), some (.ref 1)]) rfl (by decide) (fun h9 => by cases h9) (by decide) (Nat.le_of_ble_eq_true rfl) rfl ?_
  refine x_aload_n (pc' := 1) dX1_stepBack_0 rfl rfl ?_
  refine x_aload_n (pc' := 2) dX1_stepBack_1 rfl rfl ?_
  refine x_geti (pc' := 5) dX1_stepBack_2 f_X1_30 (by decide) rfl rfl rfl ?_
  refine x_bipush (pc' := 7) (x := 10) dX1_stepBack_5 (by decide) rfl ?_
  refine x_iadd (pc' := 8) dX1_stepBack_7 rfl ?_
  refine x_iconst (pc' := 9) (x := 1) dX1_stepBack_8 (by decide) rfl ?_
  refine x_isub (pc' := 10) dX1_stepBack_9 rfl ?_
  refine x_bipush (pc' := 12) (x := 10) dX1_stepBack_10 (by decide) rfl ?_
  refine xg_nz h (fun g1 h => ?_)
  refine x_irem (pc' := 13) dX1_stepBack_12 g1 rfl ?_
  refine x_puti (pc' := 16) dX1_stepBack_13 f_X1_30 (Or.inl rfl) (by decide) rfl rfl rfl ?_
  refine x_aload_n (pc' := 17) dX1_stepBack_16 rfl rfl ?_
  refine x_getr (pc' := 20) (t := 42) dX1_stepBack_17 f_X1_11 (by decide) rfl rfl rfl rfl ?_
  refine x_aload_n (pc' := 21) dX1_stepBack_20 rfl rfl ?_
  refine x_geti (pc' := 24) dX1_stepBack_21 f_X1_30 (by decide) rfl rfl rfl ?_
  refine xg_if h (fun g2 h => ?_)
  refine xg_bO h (fun t3 e4 h => ?_)
  refine x_aald3 (pc' := 25) (t := t3) dX1_stepBack_24 (by decide) rfl (xok_in g2) e4 rfl ?_
  refine x_aload_n (pc' := 26) dX1_stepBack_25 rfl rfl ?_
  refine xg_if h (fun g7 h => ?_)
  refine xg_bV h (fun hi6 hl6 r6 e5 h => ?_)
  refine x_callV (pc' := 29) (S := []) (As := [.ref 1]) (b' := (1, 0, 0)) dX1_stepBack_26 l_X1_39 m_X2_restore rfl rfl (xisO_lt g7) (xisO_sh g7) (Nat.le_of_ble_eq_true rfl) (Nat.le_of_ble_eq_true rfl) (Nat.le_of_ble_eq_true rfl) (Nat.le_of_ble_eq_true rfl) (r_X2_restore _ _ _ _ _ e5) rfl ?_
  refine x_aload_n (pc' := 30) dX1_stepBack_29 rfl rfl ?_
  refine x_dup (pc' := 31) dX1_stepBack_30 rfl rfl ?_
  refine x_geti (pc' := 34) dX1_stepBack_31 f_X1_22 (by decide) rfl rfl rfl ?_
  refine x_iconst (pc' := 35) (x := 1) dX1_stepBack_34 (by decide) rfl ?_
  refine x_isub (pc' := 36) dX1_stepBack_35 rfl ?_
  refine x_puti (pc' := 39) dX1_stepBack_36 f_X1_22 (Or.inl rfl) (by decide) rfl rfl rfl ?_
  obtain rfl := Option.some.inj h
  exact x_vret dX1_stepBack_39 rfl rfl (Nat.le_of_ble_eq_true rfl) rfl
def F_X1_returnToMark (hi : Nat → Nat → Int32) (hl : Nat → Nat → Int64) (r : xRr) : Option (xSt) := if xisO r.1 2 = true then xbV (F_X2_restore r.1 hi hl r) (fun hi2 hl2 r2 => some (hi2, hl2, r2)) else none
set_option maxRecDepth 20000 in
set_option maxHeartbeats 2000000 in
theorem r_X1_returnToMark (hi : Nat → Nat → Int32) (hl : Nat → Nat → Int64) (r : xRr) (o : xSt) (h : F_X1_returnToMark hi hl r = some o) : xM yX1_returnToMark cX1_returnToMark 2 0 (2, 0, 0) z [.ref 41, .ref 1] (xhp hi hl r) (xoV o) := by
  refine x_meth2 (C := RX1) (ini := false) (L := [some (.ref 41), some (.ref 1)]) rfl (by decide) (fun h9 => by cases h9) (by decide) (Nat.le_of_ble_eq_true rfl) rfl ?_
  refine x_aload_n (pc' := 1) dX1_returnToMark_0 rfl rfl ?_
  refine x_getr (pc' := 4) (t := r.1) dX1_returnToMark_1 f_X1_18 (by decide) rfl rfl rfl rfl ?_
  refine x_aload_n (pc' := 5) dX1_returnToMark_4 rfl rfl ?_
  refine xg_if h (fun g3 h => ?_)
  refine xg_bV h (fun hi2 hl2 r2 e1 h => ?_)
  refine x_callV (pc' := 8) (S := []) (As := [.ref 1]) (b' := (1, 0, 0)) dX1_returnToMark_5 l_X1_39 m_X2_restore rfl rfl (xisO_lt g3) (xisO_sh g3) (Nat.le_of_ble_eq_true rfl) (Nat.le_of_ble_eq_true rfl) (Nat.le_of_ble_eq_true rfl) (Nat.le_of_ble_eq_true rfl) (r_X2_restore _ _ _ _ _ e1) rfl ?_
  obtain rfl := Option.some.inj h
  exact x_vret dX1_returnToMark_8 rfl rfl (Nat.le_of_ble_eq_true rfl) rfl
def F_X2_lose (v0 : Nat) (hi : Nat → Nat → Int32) (hl : Nat → Nat → Int64) (r : xRr) : Option (xSt) := if xisO v0 2 = true then some ((xu hi v0 2 ((-20) : Int32)), hl, r) else none
set_option maxRecDepth 20000 in
set_option maxHeartbeats 2000000 in
theorem r_X2_lose (v0 : Nat) (hi : Nat → Nat → Int32) (hl : Nat → Nat → Int64) (r : xRr) (o : xSt) (h : F_X2_lose v0 hi hl r = some o) : xM yX2_lose cX2_lose 1 0 (0, 0, 0) z [.ref v0] (xhp hi hl r) (xoV o) := by
  refine x_meth2 (C := RX2) (ini := false) (L := [some (.ref v0)]) rfl (by decide) (fun h9 => by cases h9) (by decide) (Nat.le_of_ble_eq_true rfl) rfl ?_
  refine x_aload_n (pc' := 1) dX2_lose_0 rfl rfl ?_
  refine x_bipush (pc' := 3) (x := (-20)) dX2_lose_1 (by decide) rfl ?_
  refine xg_if h (fun g1 h => ?_)
  refine x_puti (pc' := 6) dX2_lose_3 f_X2_19 (Or.inl rfl) (xisO_lt g1) (xisO_sh g1) rfl rfl ?_
  obtain rfl := Option.some.inj h
  exact x_vret dX2_lose_6 rfl rfl (Nat.le_of_ble_eq_true rfl) rfl
def F_X3_taken (v0 : Int32) (v1 : Int32) : Option (Int32) := if v0 = (11 : Int32) then some ((-5) : Int32) else if v0 = (12 : Int32) then some ((-6) : Int32) else if v1 = (8 : Int32) then some (0 : Int32) else if (7 : Int32) < v0 then some ((-7) : Int32) else if xok v0 8 = true then if (((xwid (Int32.toNatClampNeg v0)) >>> (v1 &&& 31)) &&& (1 : Int32)) = (1 : Int32) then some (0 : Int32) else some ((-7) : Int32) else none
set_option maxRecDepth 20000 in
set_option maxHeartbeats 2000000 in
theorem r_X3_taken (v0 : Int32) (v1 : Int32) (H : xHp) (o : Int32) (h : F_X3_taken v0 v1 = some o) : xM yX3_taken cX3_taken 2 1 (0, 0, 0) z [.int v0, .int v1] H (some (.int o), H) := by
  refine x_meth2 (C := RX3) (ini := false) (L := [some (.int v0), some (.int v1)]) rfl (by decide) (fun h9 => by cases h9) (by decide) (Nat.le_of_ble_eq_true rfl) rfl ?_
  refine x_iload_n (pc' := 1) dX3_taken_0 rfl rfl ?_
  refine x_bipush (pc' := 3) (x := 11) dX3_taken_1 (by decide) rfl ?_
  refine xg_ite h (fun g1 h => ?_) (fun g1 h => ?_)
  · refine x_icmp_ne (tgt := 9) (pc' := 6) dX3_taken_3 (by decide) rfl (fun hn => absurd g1 hn) (fun _ => ?_)
    refine x_bipush (pc' := 8) (x := (-5)) dX3_taken_6 (by decide) rfl ?_
    obtain rfl := Option.some.inj h
    exact x_iret dX3_taken_8 rfl rfl (Nat.le_of_ble_eq_true rfl) rfl
  · refine x_icmp_ne (tgt := 9) (pc' := 6) dX3_taken_3 (by decide) rfl (fun _ => ?_) (fun hn => absurd hn g1)
    refine x_iload_n (pc' := 10) dX3_taken_9 rfl rfl ?_
    refine x_bipush (pc' := 12) (x := 12) dX3_taken_10 (by decide) rfl ?_
    refine xg_ite h (fun g2 h => ?_) (fun g2 h => ?_)
    · refine x_icmp_ne (tgt := 18) (pc' := 15) dX3_taken_12 (by decide) rfl (fun hn => absurd g2 hn) (fun _ => ?_)
      refine x_bipush (pc' := 17) (x := (-6)) dX3_taken_15 (by decide) rfl ?_
      obtain rfl := Option.some.inj h
      exact x_iret dX3_taken_17 rfl rfl (Nat.le_of_ble_eq_true rfl) rfl
    · refine x_icmp_ne (tgt := 18) (pc' := 15) dX3_taken_12 (by decide) rfl (fun _ => ?_) (fun hn => absurd hn g2)
      refine x_iload_n (pc' := 19) dX3_taken_18 rfl rfl ?_
      refine x_bipush (pc' := 21) (x := 8) dX3_taken_19 (by decide) rfl ?_
      refine xg_ite h (fun g3 h => ?_) (fun g3 h => ?_)
      · refine x_icmp_ne (tgt := 26) (pc' := 24) dX3_taken_21 (by decide) rfl (fun hn => absurd g3 hn) (fun _ => ?_)
        refine x_iconst (pc' := 25) (x := 0) dX3_taken_24 (by decide) rfl ?_
        obtain rfl := Option.some.inj h
        exact x_iret dX3_taken_25 rfl rfl (Nat.le_of_ble_eq_true rfl) rfl
      · refine x_icmp_ne (tgt := 26) (pc' := 24) dX3_taken_21 (by decide) rfl (fun _ => ?_) (fun hn => absurd hn g3)
        refine x_iload_n (pc' := 27) dX3_taken_26 rfl rfl ?_
        refine x_bipush (pc' := 29) (x := 7) dX3_taken_27 (by decide) rfl ?_
        refine xg_ite h (fun g4 h => ?_) (fun g4 h => ?_)
        · refine x_icmp_gt (tgt := 49) (pc' := 32) dX3_taken_29 (by decide) rfl (fun _ => ?_) (fun hn => absurd g4 hn)
          refine x_bipush (pc' := 51) (x := (-7)) dX3_taken_49 (by decide) rfl ?_
          obtain rfl := Option.some.inj h
          exact x_iret dX3_taken_51 rfl rfl (Nat.le_of_ble_eq_true rfl) rfl
        · refine x_icmp_gt (tgt := 49) (pc' := 32) dX3_taken_29 (by decide) rfl (fun hn => absurd hn g4) (fun _ => ?_)
          refine x_getsW (pc' := 35) dX3_taken_32 f_X3_26 rfl ?_
          refine x_iload_n (pc' := 36) dX3_taken_35 rfl rfl ?_
          refine xg_if h (fun g5 h => ?_)
          refine x_sldW (pc' := 37) dX3_taken_36 (xok_in g5) rfl ?_
          refine x_iload_n (pc' := 38) dX3_taken_37 rfl rfl ?_
          refine x_ishr (pc' := 39) dX3_taken_38 rfl ?_
          refine x_iconst (pc' := 40) (x := 1) dX3_taken_39 (by decide) rfl ?_
          refine x_iand (pc' := 41) dX3_taken_40 rfl ?_
          refine x_iconst (pc' := 42) (x := 1) dX3_taken_41 (by decide) rfl ?_
          refine xg_ite h (fun g6 h => ?_) (fun g6 h => ?_)
          · refine x_icmp_ne (tgt := 49) (pc' := 45) dX3_taken_42 (by decide) rfl (fun hn => absurd g6 hn) (fun _ => ?_)
            refine x_iconst (pc' := 46) (x := 0) dX3_taken_45 (by decide) rfl ?_
            refine x_goto (tgt := 51) dX3_taken_46 (by decide) ?_
            obtain rfl := Option.some.inj h
            exact x_iret dX3_taken_51 rfl rfl (Nat.le_of_ble_eq_true rfl) rfl
          · refine x_icmp_ne (tgt := 49) (pc' := 45) dX3_taken_42 (by decide) rfl (fun _ => ?_) (fun hn => absurd hn g6)
            refine x_bipush (pc' := 51) (x := (-7)) dX3_taken_49 (by decide) rfl ?_
            obtain rfl := Option.some.inj h
            exact x_iret dX3_taken_51 rfl rfl (Nat.le_of_ble_eq_true rfl) rfl
def F_X3_handed_59 : Option (Int32) := some (0 : Int32)
set_option maxRecDepth 20000 in
set_option maxHeartbeats 2000000 in
theorem r_X3_handed_59 (d0 : Option Value) (d1 : Option Value) (d2 : Option Value) (H : xHp) (o : Int32) (h : F_X3_handed_59 = some o) : xR (RX3, cX3_handed, 3, false, 1) (0, 0, 0) z 0 0 59 [d0, d1, d2] [] H (some (.int o), H) := by
  refine x_iconst (pc' := 60) (x := 0) dX3_handed_59 (by decide) rfl ?_
  refine x_goto (tgt := 65) dX3_handed_60 (by decide) ?_
  obtain rfl := Option.some.inj h
  exact x_iret dX3_handed_65 rfl rfl (Nat.le_of_ble_eq_true rfl) rfl
def F_X3_handed_83 : Option (Int32) := some (0 : Int32)
set_option maxRecDepth 20000 in
set_option maxHeartbeats 2000000 in
theorem r_X3_handed_83 (d0 : Option Value) (d1 : Option Value) (d2 : Option Value) (H : xHp) (o : Int32) (h : F_X3_handed_83 = some o) : xR (RX3, cX3_handed, 3, false, 1) (0, 0, 0) z 0 0 83 [d0, d1, d2] [] H (some (.int o), H) := by
  refine x_iconst (pc' := 84) (x := 0) dX3_handed_83 (by decide) rfl ?_
  refine x_goto (tgt := 89) dX3_handed_84 (by decide) ?_
  obtain rfl := Option.some.inj h
  exact x_iret dX3_handed_89 rfl rfl (Nat.le_of_ble_eq_true rfl) rfl
def F_X3_handed_33 (v0 : Int32) (v2 : Int32) : Option (Int32) := if v2 = (8 : Int32) then some (0 : Int32) else if v2 = (9 : Int32) then if v0 = (9 : Int32) then F_X3_handed_59 else if v0 = (10 : Int32) then F_X3_handed_59 else some ((-7) : Int32) else if v2 = (10 : Int32) then if v0 = (4 : Int32) then F_X3_handed_83 else if v0 = (10 : Int32) then F_X3_handed_83 else some ((-7) : Int32) else if v0 = (10 : Int32) then some ((-9) : Int32) else if (7 : Int32) < v0 then some ((-7) : Int32) else if xok v0 8 = true then if (((xwid (Int32.toNatClampNeg v0)) >>> (v2 &&& 31)) &&& (1 : Int32)) = (1 : Int32) then some (0 : Int32) else some ((-7) : Int32) else none
set_option maxRecDepth 20000 in
set_option maxHeartbeats 2000000 in
theorem r_X3_handed_33 (v0 : Int32) (v2 : Int32) (d1 : Option Value) (H : xHp) (o : Int32) (h : F_X3_handed_33 v0 v2 = some o) : xR (RX3, cX3_handed, 3, false, 1) (0, 0, 0) z 0 0 33 [some (.int v0), d1, some (.int v2)] [] H (some (.int o), H) := by
  refine x_iload_n (pc' := 34) dX3_handed_33 rfl rfl ?_
  refine x_bipush (pc' := 36) (x := 8) dX3_handed_34 (by decide) rfl ?_
  refine xg_ite h (fun g1 h => ?_) (fun g1 h => ?_)
  · refine x_icmp_ne (tgt := 41) (pc' := 39) dX3_handed_36 (by decide) rfl (fun hn => absurd g1 hn) (fun _ => ?_)
    refine x_iconst (pc' := 40) (x := 0) dX3_handed_39 (by decide) rfl ?_
    obtain rfl := Option.some.inj h
    exact x_iret dX3_handed_40 rfl rfl (Nat.le_of_ble_eq_true rfl) rfl
  · refine x_icmp_ne (tgt := 41) (pc' := 39) dX3_handed_36 (by decide) rfl (fun _ => ?_) (fun hn => absurd hn g1)
    refine x_iload_n (pc' := 42) dX3_handed_41 rfl rfl ?_
    refine x_bipush (pc' := 44) (x := 9) dX3_handed_42 (by decide) rfl ?_
    refine xg_ite h (fun g2 h => ?_) (fun g2 h => ?_)
    · refine x_icmp_ne (tgt := 66) (pc' := 47) dX3_handed_44 (by decide) rfl (fun hn => absurd g2 hn) (fun _ => ?_)
      refine x_iload_n (pc' := 48) dX3_handed_47 rfl rfl ?_
      refine x_bipush (pc' := 50) (x := 9) dX3_handed_48 (by decide) rfl ?_
      refine xg_ite h (fun g3 h => ?_) (fun g3 h => ?_)
      · refine x_icmp_eq (tgt := 59) (pc' := 53) dX3_handed_50 (by decide) rfl (fun _ => ?_) (fun hn => absurd g3 hn)
        exact r_X3_handed_59 _ _ _ _ _ h
      · refine x_icmp_eq (tgt := 59) (pc' := 53) dX3_handed_50 (by decide) rfl (fun hn => absurd hn g3) (fun _ => ?_)
        refine x_iload_n (pc' := 54) dX3_handed_53 rfl rfl ?_
        refine x_bipush (pc' := 56) (x := 10) dX3_handed_54 (by decide) rfl ?_
        refine xg_ite h (fun g4 h => ?_) (fun g4 h => ?_)
        · refine x_icmp_ne (tgt := 63) (pc' := 59) dX3_handed_56 (by decide) rfl (fun hn => absurd g4 hn) (fun _ => ?_)
          exact r_X3_handed_59 _ _ _ _ _ h
        · refine x_icmp_ne (tgt := 63) (pc' := 59) dX3_handed_56 (by decide) rfl (fun _ => ?_) (fun hn => absurd hn g4)
          refine x_bipush (pc' := 65) (x := (-7)) dX3_handed_63 (by decide) rfl ?_
          obtain rfl := Option.some.inj h
          exact x_iret dX3_handed_65 rfl rfl (Nat.le_of_ble_eq_true rfl) rfl
    · refine x_icmp_ne (tgt := 66) (pc' := 47) dX3_handed_44 (by decide) rfl (fun _ => ?_) (fun hn => absurd hn g2)
      refine x_iload_n (pc' := 67) dX3_handed_66 rfl rfl ?_
      refine x_bipush (pc' := 69) (x := 10) dX3_handed_67 (by decide) rfl ?_
      refine xg_ite h (fun g5 h => ?_) (fun g5 h => ?_)
      · refine x_icmp_ne (tgt := 90) (pc' := 72) dX3_handed_69 (by decide) rfl (fun hn => absurd g5 hn) (fun _ => ?_)
        refine x_iload_n (pc' := 73) dX3_handed_72 rfl rfl ?_
        refine x_iconst (pc' := 74) (x := 4) dX3_handed_73 (by decide) rfl ?_
        refine xg_ite h (fun g6 h => ?_) (fun g6 h => ?_)
        · refine x_icmp_eq (tgt := 83) (pc' := 77) dX3_handed_74 (by decide) rfl (fun _ => ?_) (fun hn => absurd g6 hn)
          exact r_X3_handed_83 _ _ _ _ _ h
        · refine x_icmp_eq (tgt := 83) (pc' := 77) dX3_handed_74 (by decide) rfl (fun hn => absurd hn g6) (fun _ => ?_)
          refine x_iload_n (pc' := 78) dX3_handed_77 rfl rfl ?_
          refine x_bipush (pc' := 80) (x := 10) dX3_handed_78 (by decide) rfl ?_
          refine xg_ite h (fun g7 h => ?_) (fun g7 h => ?_)
          · refine x_icmp_ne (tgt := 87) (pc' := 83) dX3_handed_80 (by decide) rfl (fun hn => absurd g7 hn) (fun _ => ?_)
            exact r_X3_handed_83 _ _ _ _ _ h
          · refine x_icmp_ne (tgt := 87) (pc' := 83) dX3_handed_80 (by decide) rfl (fun _ => ?_) (fun hn => absurd hn g7)
            refine x_bipush (pc' := 89) (x := (-7)) dX3_handed_87 (by decide) rfl ?_
            obtain rfl := Option.some.inj h
            exact x_iret dX3_handed_89 rfl rfl (Nat.le_of_ble_eq_true rfl) rfl
      · refine x_icmp_ne (tgt := 90) (pc' := 72) dX3_handed_69 (by decide) rfl (fun _ => ?_) (fun hn => absurd hn g5)
        refine x_iload_n (pc' := 91) dX3_handed_90 rfl rfl ?_
        refine x_bipush (pc' := 93) (x := 10) dX3_handed_91 (by decide) rfl ?_
        refine xg_ite h (fun g8 h => ?_) (fun g8 h => ?_)
        · refine x_icmp_ne (tgt := 99) (pc' := 96) dX3_handed_93 (by decide) rfl (fun hn => absurd g8 hn) (fun _ => ?_)
          refine x_bipush (pc' := 98) (x := (-9)) dX3_handed_96 (by decide) rfl ?_
          obtain rfl := Option.some.inj h
          exact x_iret dX3_handed_98 rfl rfl (Nat.le_of_ble_eq_true rfl) rfl
        · refine x_icmp_ne (tgt := 99) (pc' := 96) dX3_handed_93 (by decide) rfl (fun _ => ?_) (fun hn => absurd hn g8)
          refine x_iload_n (pc' := 100) dX3_handed_99 rfl rfl ?_
          refine x_bipush (pc' := 102) (x := 7) dX3_handed_100 (by decide) rfl ?_
          refine xg_ite h (fun g9 h => ?_) (fun g9 h => ?_)
          · refine x_icmp_gt (tgt := 122) (pc' := 105) dX3_handed_102 (by decide) rfl (fun _ => ?_) (fun hn => absurd g9 hn)
            refine x_bipush (pc' := 124) (x := (-7)) dX3_handed_122 (by decide) rfl ?_
            obtain rfl := Option.some.inj h
            exact x_iret dX3_handed_124 rfl rfl (Nat.le_of_ble_eq_true rfl) rfl
          · refine x_icmp_gt (tgt := 122) (pc' := 105) dX3_handed_102 (by decide) rfl (fun hn => absurd hn g9) (fun _ => ?_)
            refine x_getsW (pc' := 108) dX3_handed_105 f_X3_26 rfl ?_
            refine x_iload_n (pc' := 109) dX3_handed_108 rfl rfl ?_
            refine xg_if h (fun g10 h => ?_)
            refine x_sldW (pc' := 110) dX3_handed_109 (xok_in g10) rfl ?_
            refine x_iload_n (pc' := 111) dX3_handed_110 rfl rfl ?_
            refine x_ishr (pc' := 112) dX3_handed_111 rfl ?_
            refine x_iconst (pc' := 113) (x := 1) dX3_handed_112 (by decide) rfl ?_
            refine x_iand (pc' := 114) dX3_handed_113 rfl ?_
            refine x_iconst (pc' := 115) (x := 1) dX3_handed_114 (by decide) rfl ?_
            refine xg_ite h (fun g11 h => ?_) (fun g11 h => ?_)
            · refine x_icmp_ne (tgt := 122) (pc' := 118) dX3_handed_115 (by decide) rfl (fun hn => absurd g11 hn) (fun _ => ?_)
              refine x_iconst (pc' := 119) (x := 0) dX3_handed_118 (by decide) rfl ?_
              refine x_goto (tgt := 124) dX3_handed_119 (by decide) ?_
              obtain rfl := Option.some.inj h
              exact x_iret dX3_handed_124 rfl rfl (Nat.le_of_ble_eq_true rfl) rfl
            · refine x_icmp_ne (tgt := 122) (pc' := 118) dX3_handed_115 (by decide) rfl (fun _ => ?_) (fun hn => absurd hn g11)
              refine x_bipush (pc' := 124) (x := (-7)) dX3_handed_122 (by decide) rfl ?_
              obtain rfl := Option.some.inj h
              exact x_iret dX3_handed_124 rfl rfl (Nat.le_of_ble_eq_true rfl) rfl
def F_X3_handed (v0 : Int32) (v1 : Int32) (v2 : Int32) : Option (Int32) := if v2 = (11 : Int32) then some ((-5) : Int32) else if v2 = (12 : Int32) then some ((-6) : Int32) else if v1 = (8 : Int32) then F_X3_handed_33 v0 v2 else if v2 ≤ (7 : Int32) then F_X3_handed_33 v0 v2 else some ((-7) : Int32)
set_option maxRecDepth 20000 in
set_option maxHeartbeats 2000000 in
theorem r_X3_handed (v0 : Int32) (v1 : Int32) (v2 : Int32) (H : xHp) (o : Int32) (h : F_X3_handed v0 v1 v2 = some o) : xM yX3_handed cX3_handed 3 1 (0, 0, 0) z [.int v0, .int v1, .int v2] H (some (.int o), H) := by
  refine x_meth2 (C := RX3) (ini := false) (L := [some (.int v0), some (.int v1), some (.int v2)]) rfl (by decide) (fun h9 => by cases h9) (by decide) (Nat.le_of_ble_eq_true rfl) rfl ?_
  refine x_iload_n (pc' := 1) dX3_handed_0 rfl rfl ?_
  refine x_bipush (pc' := 3) (x := 11) dX3_handed_1 (by decide) rfl ?_
  refine xg_ite h (fun g1 h => ?_) (fun g1 h => ?_)
  · refine x_icmp_ne (tgt := 9) (pc' := 6) dX3_handed_3 (by decide) rfl (fun hn => absurd g1 hn) (fun _ => ?_)
    refine x_bipush (pc' := 8) (x := (-5)) dX3_handed_6 (by decide) rfl ?_
    obtain rfl := Option.some.inj h
    exact x_iret dX3_handed_8 rfl rfl (Nat.le_of_ble_eq_true rfl) rfl
  · refine x_icmp_ne (tgt := 9) (pc' := 6) dX3_handed_3 (by decide) rfl (fun _ => ?_) (fun hn => absurd hn g1)
    refine x_iload_n (pc' := 10) dX3_handed_9 rfl rfl ?_
    refine x_bipush (pc' := 12) (x := 12) dX3_handed_10 (by decide) rfl ?_
    refine xg_ite h (fun g2 h => ?_) (fun g2 h => ?_)
    · refine x_icmp_ne (tgt := 18) (pc' := 15) dX3_handed_12 (by decide) rfl (fun hn => absurd g2 hn) (fun _ => ?_)
      refine x_bipush (pc' := 17) (x := (-6)) dX3_handed_15 (by decide) rfl ?_
      obtain rfl := Option.some.inj h
      exact x_iret dX3_handed_17 rfl rfl (Nat.le_of_ble_eq_true rfl) rfl
    · refine x_icmp_ne (tgt := 18) (pc' := 15) dX3_handed_12 (by decide) rfl (fun _ => ?_) (fun hn => absurd hn g2)
      refine x_iload_n (pc' := 19) dX3_handed_18 rfl rfl ?_
      refine x_bipush (pc' := 21) (x := 8) dX3_handed_19 (by decide) rfl ?_
      refine xg_ite h (fun g3 h => ?_) (fun g3 h => ?_)
      · refine x_icmp_eq (tgt := 33) (pc' := 24) dX3_handed_21 (by decide) rfl (fun _ => ?_) (fun hn => absurd g3 hn)
        exact r_X3_handed_33 _ _ _ _ _ h
      · refine x_icmp_eq (tgt := 33) (pc' := 24) dX3_handed_21 (by decide) rfl (fun hn => absurd hn g3) (fun _ => ?_)
        refine x_iload_n (pc' := 25) dX3_handed_24 rfl rfl ?_
        refine x_bipush (pc' := 27) (x := 7) dX3_handed_25 (by decide) rfl ?_
        refine xg_ite h (fun g4 h => ?_) (fun g4 h => ?_)
        · refine x_icmp_le (tgt := 33) (pc' := 30) dX3_handed_27 (by decide) rfl (fun _ => ?_) (fun hn => absurd g4 hn)
          exact r_X3_handed_33 _ _ _ _ _ h
        · refine x_icmp_le (tgt := 33) (pc' := 30) dX3_handed_27 (by decide) rfl (fun hn => absurd hn g4) (fun _ => ?_)
          refine x_bipush (pc' := 32) (x := (-7)) dX3_handed_30 (by decide) rfl ?_
          obtain rfl := Option.some.inj h
          exact x_iret dX3_handed_32 rfl rfl (Nat.le_of_ble_eq_true rfl) rfl
def F_X3_isThing (v0 : Int32) (v1 : Int64) : Option (Int32) := if v0 = (10 : Int32) then some (1 : Int32) else if v0 = (9 : Int32) then if (lg_cmp v1 (0 : Int64)) < 0 then some (0 : Int32) else if 0 < (lg_cmp v1 (9 : Int64)) then some (0 : Int32) else some (1 : Int32) else if v0 < 0 then some (0 : Int32) else if (7 : Int32) < v0 then some (0 : Int32) else if xok v0 8 = true then if (lg_cmp v1 (xlow (Int32.toNatClampNeg v0))) < 0 then some (0 : Int32) else if 0 < (lg_cmp v1 (xhig (Int32.toNatClampNeg v0))) then some (0 : Int32) else some (1 : Int32) else none
set_option maxRecDepth 20000 in
set_option maxHeartbeats 2000000 in
theorem r_X3_isThing (v0 : Int32) (v1 : Int64) (H : xHp) (o : Int32) (h : F_X3_isThing v0 v1 = some o) : xM yX3_isThing cX3_isThing 3 3 (0, 0, 0) z [.int v0, .long v1] H (some (.int o), H) := by
  refine x_meth2 (C := RX3) (ini := false) (L := [some (.int v0), some (.long v1), none]) rfl (by decide) (fun h9 => by cases h9) (by decide) (Nat.le_of_ble_eq_true rfl) rfl ?_
  refine x_iload_n (pc' := 1) dX3_isThing_0 rfl rfl ?_
  refine x_bipush (pc' := 3) (x := 10) dX3_isThing_1 (by decide) rfl ?_
  refine xg_ite h (fun g1 h => ?_) (fun g1 h => ?_)
  · refine x_icmp_ne (tgt := 8) (pc' := 6) dX3_isThing_3 (by decide) rfl (fun hn => absurd g1 hn) (fun _ => ?_)
    refine x_iconst (pc' := 7) (x := 1) dX3_isThing_6 (by decide) rfl ?_
    obtain rfl := Option.some.inj h
    exact x_zret dX3_isThing_7 rfl (Or.inr rfl) rfl (Nat.le_of_ble_eq_true rfl) rfl
  · refine x_icmp_ne (tgt := 8) (pc' := 6) dX3_isThing_3 (by decide) rfl (fun _ => ?_) (fun hn => absurd hn g1)
    refine x_iload_n (pc' := 9) dX3_isThing_8 rfl rfl ?_
    refine x_bipush (pc' := 11) (x := 9) dX3_isThing_9 (by decide) rfl ?_
    refine xg_ite h (fun g2 h => ?_) (fun g2 h => ?_)
    · refine x_icmp_ne (tgt := 34) (pc' := 14) dX3_isThing_11 (by decide) rfl (fun hn => absurd g2 hn) (fun _ => ?_)
      refine x_lload_n (pc' := 15) dX3_isThing_14 rfl rfl ?_
      refine x_lconst (pc' := 16) (x := 0) dX3_isThing_15 (by decide) rfl ?_
      refine x_lcmp (pc' := 17) dX3_isThing_16 rfl ?_
      refine xg_ite h (fun g3 h => ?_) (fun g3 h => ?_)
      · refine x_if_lt (tgt := 32) (pc' := 20) dX3_isThing_17 (by decide) rfl (fun _ => ?_) (fun hn => absurd g3 hn)
        refine x_iconst (pc' := 33) (x := 0) dX3_isThing_32 (by decide) rfl ?_
        obtain rfl := Option.some.inj h
        exact x_zret dX3_isThing_33 rfl (Or.inl rfl) rfl (Nat.le_of_ble_eq_true rfl) rfl
      · refine x_if_lt (tgt := 32) (pc' := 20) dX3_isThing_17 (by decide) rfl (fun hn => absurd hn g3) (fun _ => ?_)
        refine x_lload_n (pc' := 21) dX3_isThing_20 rfl rfl ?_
        refine x_ldc2 (pc' := 24) dX3_isThing_21 k_X3_9 rfl ?_
        refine x_lcmp (pc' := 25) dX3_isThing_24 rfl ?_
        refine xg_ite h (fun g4 h => ?_) (fun g4 h => ?_)
        · refine x_if_gt (tgt := 32) (pc' := 28) dX3_isThing_25 (by decide) rfl (fun _ => ?_) (fun hn => absurd g4 hn)
          refine x_iconst (pc' := 33) (x := 0) dX3_isThing_32 (by decide) rfl ?_
          obtain rfl := Option.some.inj h
          exact x_zret dX3_isThing_33 rfl (Or.inl rfl) rfl (Nat.le_of_ble_eq_true rfl) rfl
        · refine x_if_gt (tgt := 32) (pc' := 28) dX3_isThing_25 (by decide) rfl (fun hn => absurd hn g4) (fun _ => ?_)
          refine x_iconst (pc' := 29) (x := 1) dX3_isThing_28 (by decide) rfl ?_
          refine x_goto (tgt := 33) dX3_isThing_29 (by decide) ?_
          obtain rfl := Option.some.inj h
          exact x_zret dX3_isThing_33 rfl (Or.inr rfl) rfl (Nat.le_of_ble_eq_true rfl) rfl
    · refine x_icmp_ne (tgt := 34) (pc' := 14) dX3_isThing_11 (by decide) rfl (fun _ => ?_) (fun hn => absurd hn g2)
      refine x_iload_n (pc' := 35) dX3_isThing_34 rfl rfl ?_
      refine xg_ite h (fun g5 h => ?_) (fun g5 h => ?_)
      · refine x_if_lt (tgt := 68) (pc' := 38) dX3_isThing_35 (by decide) rfl (fun _ => ?_) (fun hn => absurd g5 hn)
        refine x_iconst (pc' := 69) (x := 0) dX3_isThing_68 (by decide) rfl ?_
        obtain rfl := Option.some.inj h
        exact x_zret dX3_isThing_69 rfl (Or.inl rfl) rfl (Nat.le_of_ble_eq_true rfl) rfl
      · refine x_if_lt (tgt := 68) (pc' := 38) dX3_isThing_35 (by decide) rfl (fun hn => absurd hn g5) (fun _ => ?_)
        refine x_iload_n (pc' := 39) dX3_isThing_38 rfl rfl ?_
        refine x_bipush (pc' := 41) (x := 7) dX3_isThing_39 (by decide) rfl ?_
        refine xg_ite h (fun g6 h => ?_) (fun g6 h => ?_)
        · refine x_icmp_gt (tgt := 68) (pc' := 44) dX3_isThing_41 (by decide) rfl (fun _ => ?_) (fun hn => absurd g6 hn)
          refine x_iconst (pc' := 69) (x := 0) dX3_isThing_68 (by decide) rfl ?_
          obtain rfl := Option.some.inj h
          exact x_zret dX3_isThing_69 rfl (Or.inl rfl) rfl (Nat.le_of_ble_eq_true rfl) rfl
        · refine x_icmp_gt (tgt := 68) (pc' := 44) dX3_isThing_41 (by decide) rfl (fun hn => absurd hn g6) (fun _ => ?_)
          refine x_lload_n (pc' := 45) dX3_isThing_44 rfl rfl ?_
          refine x_getsL (pc' := 48) dX3_isThing_45 f_X3_11 rfl ?_
          refine x_iload_n (pc' := 49) dX3_isThing_48 rfl rfl ?_
          refine xg_if h (fun g7 h => ?_)
          refine x_sldL (pc' := 50) dX3_isThing_49 (xok_in g7) rfl ?_
          refine x_lcmp (pc' := 51) dX3_isThing_50 rfl ?_
          refine xg_ite h (fun g8 h => ?_) (fun g8 h => ?_)
          · refine x_if_lt (tgt := 68) (pc' := 54) dX3_isThing_51 (by decide) rfl (fun _ => ?_) (fun hn => absurd g8 hn)
            refine x_iconst (pc' := 69) (x := 0) dX3_isThing_68 (by decide) rfl ?_
            obtain rfl := Option.some.inj h
            exact x_zret dX3_isThing_69 rfl (Or.inl rfl) rfl (Nat.le_of_ble_eq_true rfl) rfl
          · refine x_if_lt (tgt := 68) (pc' := 54) dX3_isThing_51 (by decide) rfl (fun hn => absurd hn g8) (fun _ => ?_)
            refine x_lload_n (pc' := 55) dX3_isThing_54 rfl rfl ?_
            refine x_getsH (pc' := 58) dX3_isThing_55 f_X3_17 rfl ?_
            refine x_iload_n (pc' := 59) dX3_isThing_58 rfl rfl ?_
            refine x_sldH (pc' := 60) dX3_isThing_59 (xok_in g7) rfl ?_
            refine x_lcmp (pc' := 61) dX3_isThing_60 rfl ?_
            refine xg_ite h (fun g9 h => ?_) (fun g9 h => ?_)
            · refine x_if_gt (tgt := 68) (pc' := 64) dX3_isThing_61 (by decide) rfl (fun _ => ?_) (fun hn => absurd g9 hn)
              refine x_iconst (pc' := 69) (x := 0) dX3_isThing_68 (by decide) rfl ?_
              obtain rfl := Option.some.inj h
              exact x_zret dX3_isThing_69 rfl (Or.inl rfl) rfl (Nat.le_of_ble_eq_true rfl) rfl
            · refine x_if_gt (tgt := 68) (pc' := 64) dX3_isThing_61 (by decide) rfl (fun hn => absurd hn g9) (fun _ => ?_)
              refine x_iconst (pc' := 65) (x := 1) dX3_isThing_64 (by decide) rfl ?_
              refine x_goto (tgt := 69) dX3_isThing_65 (by decide) ?_
              obtain rfl := Option.some.inj h
              exact x_zret dX3_isThing_69 rfl (Or.inr rfl) rfl (Nat.le_of_ble_eq_true rfl) rfl
def F_X3_joined_57 (K29 : Int32 → Int32 → Option (Int32)) (v2 : Int32) (v3 : Int32) : Option (Int32) := K29 v2 (v3 + (1))
set_option maxRecDepth 20000 in
set_option maxHeartbeats 2000000 in
theorem r_X3_joined_57 (K29 : Int32 → Int32 → Option (Int32)) (hK29 : ∀ (v2 : Int32) (v3 : Int32) (d0 : Option Value) (d1 : Option Value) (H : xHp) (o : Int32), K29 v2 v3 = some o → xR (RX3, cX3_joined, 4, false, 1) (0, 0, 0) z 0 0 29 [d0, d1, some (.int v2), some (.int v3)] [] H (some (.int o), H)) (v2 : Int32) (v3 : Int32) (d0 : Option Value) (d1 : Option Value) (H : xHp) (o : Int32) (h : F_X3_joined_57 K29 v2 v3 = some o) : xR (RX3, cX3_joined, 4, false, 1) (0, 0, 0) z 0 0 57 [d0, d1, some (.int v2), some (.int v3)] [] H (some (.int o), H) := by
  refine x_iinc (pc' := 60) (v := (v3 + (1))) (L' := [d0, d1, some (.int v2), some (.int (v3 + (1)))]) dX3_joined_57 rfl rfl (Nat.le_of_ble_eq_true rfl) rfl rfl ?_
  refine x_goto (tgt := 29) dX3_joined_60 (by decide) ?_
  exact hK29 _ _ _ _ _ _ h
def F_X3_joined_29 : Nat → Int32 → Int32 → Option (Int32)
  | 0, _, _ => none
  | n + 1, v2, v3 => if (7 : Int32) < v3 then some ((-20) : Int32) else if ((v2 >>> (v3 &&& 31)) &&& (1 : Int32)) = (1 : Int32) then if xok v3 8 = true then if ((xwid (Int32.toNatClampNeg v3)) &&& v2) = v2 then some v3 else F_X3_joined_57 (F_X3_joined_29 n) v2 v3 else none else F_X3_joined_57 (F_X3_joined_29 n) v2 v3
set_option maxRecDepth 20000 in
set_option maxHeartbeats 2000000 in
theorem r_X3_joined_29 : ∀ (n : Nat) (v2 : Int32) (v3 : Int32) (d0 : Option Value) (d1 : Option Value) (H : xHp) (o : Int32), F_X3_joined_29 n v2 v3 = some o → xR (RX3, cX3_joined, 4, false, 1) (0, 0, 0) z 0 0 29 [d0, d1, some (.int v2), some (.int v3)] [] H (some (.int o), H) := by
  intro n
  induction n with
  | zero =>
    intro v2 v3 d0 d1 H o h
    have h : none = some o := h
    cases h
  | succ n ih =>
    intro v2 v3 d0 d1 H o h
    refine x_iload_n (pc' := 30) dX3_joined_29 rfl rfl ?_
    refine x_bipush (pc' := 32) (x := 7) dX3_joined_30 (by decide) rfl ?_
    refine xg_ite h (fun g1 h => ?_) (fun g1 h => ?_)
    · refine x_icmp_gt (tgt := 63) (pc' := 35) dX3_joined_32 (by decide) rfl (fun _ => ?_) (fun hn => absurd g1 hn)
      refine x_bipush (pc' := 65) (x := (-20)) dX3_joined_63 (by decide) rfl ?_
      obtain rfl := Option.some.inj h
      exact x_iret dX3_joined_65 rfl rfl (Nat.le_of_ble_eq_true rfl) rfl
    · refine x_icmp_gt (tgt := 63) (pc' := 35) dX3_joined_32 (by decide) rfl (fun hn => absurd hn g1) (fun _ => ?_)
      refine x_iload_n (pc' := 36) dX3_joined_35 rfl rfl ?_
      refine x_iload_n (pc' := 37) dX3_joined_36 rfl rfl ?_
      refine x_ishr (pc' := 38) dX3_joined_37 rfl ?_
      refine x_iconst (pc' := 39) (x := 1) dX3_joined_38 (by decide) rfl ?_
      refine x_iand (pc' := 40) dX3_joined_39 rfl ?_
      refine x_iconst (pc' := 41) (x := 1) dX3_joined_40 (by decide) rfl ?_
      refine xg_ite h (fun g2 h => ?_) (fun g2 h => ?_)
      · refine x_icmp_ne (tgt := 57) (pc' := 44) dX3_joined_41 (by decide) rfl (fun hn => absurd g2 hn) (fun _ => ?_)
        refine x_getsW (pc' := 47) dX3_joined_44 f_X3_26 rfl ?_
        refine x_iload_n (pc' := 48) dX3_joined_47 rfl rfl ?_
        refine xg_if h (fun g3 h => ?_)
        refine x_sldW (pc' := 49) dX3_joined_48 (xok_in g3) rfl ?_
        refine x_iload_n (pc' := 50) dX3_joined_49 rfl rfl ?_
        refine x_iand (pc' := 51) dX3_joined_50 rfl ?_
        refine x_iload_n (pc' := 52) dX3_joined_51 rfl rfl ?_
        refine xg_ite h (fun g4 h => ?_) (fun g4 h => ?_)
        · refine x_icmp_ne (tgt := 57) (pc' := 55) dX3_joined_52 (by decide) rfl (fun hn => absurd g4 hn) (fun _ => ?_)
          refine x_iload_n (pc' := 56) dX3_joined_55 rfl rfl ?_
          obtain rfl := Option.some.inj h
          exact x_iret dX3_joined_56 rfl rfl (Nat.le_of_ble_eq_true rfl) rfl
        · refine x_icmp_ne (tgt := 57) (pc' := 55) dX3_joined_52 (by decide) rfl (fun _ => ?_) (fun hn => absurd hn g4)
          exact r_X3_joined_57 (F_X3_joined_29 n) ih _ _ _ _ _ _ h
      · refine x_icmp_ne (tgt := 57) (pc' := 44) dX3_joined_41 (by decide) rfl (fun _ => ?_) (fun hn => absurd hn g2)
        exact r_X3_joined_57 (F_X3_joined_29 n) ih _ _ _ _ _ _ h
def F_X3_joined (v0 : Int32) (v1 : Int32) : Option (Int32) := if (7 : Int32) < v0 then some ((-20) : Int32) else if v1 ≤ (7 : Int32) then if xok v0 8 = true then if xok v1 8 = true then F_X3_joined_29 1000000 ((xwid (Int32.toNatClampNeg v0)) &&& (xwid (Int32.toNatClampNeg v1))) (0 : Int32) else none else none else some ((-20) : Int32)
set_option maxRecDepth 20000 in
set_option maxHeartbeats 2000000 in
theorem r_X3_joined (v0 : Int32) (v1 : Int32) (H : xHp) (o : Int32) (h : F_X3_joined v0 v1 = some o) : xM yX3_joined cX3_joined 4 1 (0, 0, 0) z [.int v0, .int v1] H (some (.int o), H) := by
  refine x_meth2 (C := RX3) (ini := false) (L := [some (.int v0), some (.int v1), none, none]) rfl (by decide) (fun h9 => by cases h9) (by decide) (Nat.le_of_ble_eq_true rfl) rfl ?_
  refine x_iload_n (pc' := 1) dX3_joined_0 rfl rfl ?_
  refine x_bipush (pc' := 3) (x := 7) dX3_joined_1 (by decide) rfl ?_
  refine xg_ite h (fun g1 h => ?_) (fun g1 h => ?_)
  · refine x_icmp_gt (tgt := 12) (pc' := 6) dX3_joined_3 (by decide) rfl (fun _ => ?_) (fun hn => absurd g1 hn)
    refine x_bipush (pc' := 14) (x := (-20)) dX3_joined_12 (by decide) rfl ?_
    obtain rfl := Option.some.inj h
    exact x_iret dX3_joined_14 rfl rfl (Nat.le_of_ble_eq_true rfl) rfl
  · refine x_icmp_gt (tgt := 12) (pc' := 6) dX3_joined_3 (by decide) rfl (fun hn => absurd hn g1) (fun _ => ?_)
    refine x_iload_n (pc' := 7) dX3_joined_6 rfl rfl ?_
    refine x_bipush (pc' := 9) (x := 7) dX3_joined_7 (by decide) rfl ?_
    refine xg_ite h (fun g2 h => ?_) (fun g2 h => ?_)
    · refine x_icmp_le (tgt := 15) (pc' := 12) dX3_joined_9 (by decide) rfl (fun _ => ?_) (fun hn => absurd g2 hn)
      refine x_getsW (pc' := 18) dX3_joined_15 f_X3_26 rfl ?_
      refine x_iload_n (pc' := 19) dX3_joined_18 rfl rfl ?_
      refine xg_if h (fun g3 h => ?_)
      refine x_sldW (pc' := 20) dX3_joined_19 (xok_in g3) rfl ?_
      refine x_getsW (pc' := 23) dX3_joined_20 f_X3_26 rfl ?_
      refine x_iload_n (pc' := 24) dX3_joined_23 rfl rfl ?_
      refine xg_if h (fun g4 h => ?_)
      refine x_sldW (pc' := 25) dX3_joined_24 (xok_in g4) rfl ?_
      refine x_iand (pc' := 26) dX3_joined_25 rfl ?_
      refine x_istore_n (pc' := 27) (L' := [some (.int v0), some (.int v1), some (.int ((xwid (Int32.toNatClampNeg v0)) &&& (xwid (Int32.toNatClampNeg v1)))), none]) dX3_joined_26 (Nat.le_of_ble_eq_true rfl) rfl rfl ?_
      refine x_iconst (pc' := 28) (x := 0) dX3_joined_27 (by decide) rfl ?_
      refine x_istore_n (pc' := 29) (L' := [some (.int v0), some (.int v1), some (.int ((xwid (Int32.toNatClampNeg v0)) &&& (xwid (Int32.toNatClampNeg v1)))), some (.int (0 : Int32))]) dX3_joined_28 (Nat.le_of_ble_eq_true rfl) rfl rfl ?_
      exact r_X3_joined_29 1000000 _ _ _ _ _ _ h
    · refine x_icmp_le (tgt := 15) (pc' := 12) dX3_joined_9 (by decide) rfl (fun hn => absurd hn g2) (fun _ => ?_)
      refine x_bipush (pc' := 14) (x := (-20)) dX3_joined_12 (by decide) rfl ?_
      obtain rfl := Option.some.inj h
      exact x_iret dX3_joined_14 rfl rfl (Nat.le_of_ble_eq_true rfl) rfl
def F_X4_empty (hi : Nat → Nat → Int32) (hl : Nat → Nat → Int64) (r : xRr) : Option (xSt) := some ((xu (xu hi 30 2 (0 : Int32)) 30 3 (0 : Int32)), hl, r)
set_option maxRecDepth 20000 in
set_option maxHeartbeats 2000000 in
theorem r_X4_empty (hi : Nat → Nat → Int32) (hl : Nat → Nat → Int64) (r : xRr) (o : xSt) (h : F_X4_empty hi hl r = some o) : xM yX4_empty cX4_empty 1 0 (0, 0, 0) z [.ref 30] (xhp hi hl r) (xoV o) := by
  refine x_meth2 (C := RX4) (ini := false) (L := [some (.ref 30)]) rfl (by decide) (fun h9 => by cases h9) (by decide) (Nat.le_of_ble_eq_true rfl) rfl ?_
  refine x_aload_n (pc' := 1) dX4_empty_0 rfl rfl ?_
  refine x_iconst (pc' := 2) (x := 0) dX4_empty_1 (by decide) rfl ?_
  refine x_puti (pc' := 5) dX4_empty_2 f_X4_18 (Or.inl rfl) (by decide) rfl rfl rfl ?_
  refine x_aload_n (pc' := 6) dX4_empty_5 rfl rfl ?_
  refine x_iconst (pc' := 7) (x := 0) dX4_empty_6 (by decide) rfl ?_
  refine x_puti (pc' := 10) dX4_empty_7 f_X4_22 (Or.inl rfl) (by decide) rfl rfl rfl ?_
  obtain rfl := Option.some.inj h
  exact x_vret dX4_empty_10 rfl rfl (Nat.le_of_ble_eq_true rfl) rfl
def F_X4_opens (v0 : Int32) : Option (Int32) := if v0 = (5 : Int32) then some (1 : Int32) else if v0 = (6 : Int32) then some ((-1) : Int32) else some (0 : Int32)
set_option maxRecDepth 20000 in
set_option maxHeartbeats 2000000 in
theorem r_X4_opens (v0 : Int32) (H : xHp) (o : Int32) (h : F_X4_opens v0 = some o) : xM yX4_opens cX4_opens 1 1 (0, 0, 0) z [.int v0] H (some (.int o), H) := by
  refine x_meth2 (C := RX4) (ini := false) (L := [some (.int v0)]) rfl (by decide) (fun h9 => by cases h9) (by decide) (Nat.le_of_ble_eq_true rfl) rfl ?_
  refine x_iload_n (pc' := 1) dX4_opens_0 rfl rfl ?_
  refine x_iconst (pc' := 2) (x := 5) dX4_opens_1 (by decide) rfl ?_
  refine xg_ite h (fun g1 h => ?_) (fun g1 h => ?_)
  · refine x_icmp_ne (tgt := 9) (pc' := 5) dX4_opens_2 (by decide) rfl (fun hn => absurd g1 hn) (fun _ => ?_)
    refine x_iconst (pc' := 6) (x := 1) dX4_opens_5 (by decide) rfl ?_
    refine x_goto (tgt := 20) dX4_opens_6 (by decide) ?_
    obtain rfl := Option.some.inj h
    exact x_iret dX4_opens_20 rfl rfl (Nat.le_of_ble_eq_true rfl) rfl
  · refine x_icmp_ne (tgt := 9) (pc' := 5) dX4_opens_2 (by decide) rfl (fun _ => ?_) (fun hn => absurd hn g1)
    refine x_iload_n (pc' := 10) dX4_opens_9 rfl rfl ?_
    refine x_bipush (pc' := 12) (x := 6) dX4_opens_10 (by decide) rfl ?_
    refine xg_ite h (fun g2 h => ?_) (fun g2 h => ?_)
    · refine x_icmp_ne (tgt := 19) (pc' := 15) dX4_opens_12 (by decide) rfl (fun hn => absurd g2 hn) (fun _ => ?_)
      refine x_iconst (pc' := 16) (x := (-1)) dX4_opens_15 (by decide) rfl ?_
      refine x_goto (tgt := 20) dX4_opens_16 (by decide) ?_
      obtain rfl := Option.some.inj h
      exact x_iret dX4_opens_20 rfl rfl (Nat.le_of_ble_eq_true rfl) rfl
    · refine x_icmp_ne (tgt := 19) (pc' := 15) dX4_opens_12 (by decide) rfl (fun _ => ?_) (fun hn => absurd hn g2)
      refine x_iconst (pc' := 20) (x := 0) dX4_opens_19 (by decide) rfl ?_
      obtain rfl := Option.some.inj h
      exact x_iret dX4_opens_20 rfl rfl (Nat.le_of_ble_eq_true rfl) rfl
def F_X4_append (v1 : Int32) (v2 : Int32) (v3 : Int32) (v4 : Int32) (v5 : Int32) (hi : Nat → Nat → Int32) (hl : Nat → Nat → Int64) (r : xRr) : Option (Int32 × xSt) := if xok (((hi 30 2) * (5 : Int32)) + (0 : Int32)) 80 = true then if xok (((hi 30 2) * (5 : Int32)) + (1 : Int32)) 80 = true then if xok (((hi 30 2) * (5 : Int32)) + (2 : Int32)) 80 = true then if xok (((hi 30 2) * (5 : Int32)) + (3 : Int32)) 80 = true then if xok (((hi 30 2) * (5 : Int32)) + (4 : Int32)) 80 = true then xbP (F_X4_opens v1) (fun w7 => some (((xu (xu (xu (xu (xu (xu (xu hi 31 (Int32.toNatClampNeg (((hi 30 2) * (5 : Int32)) + (0 : Int32))) v1) 31 (Int32.toNatClampNeg (((hi 30 2) * (5 : Int32)) + (1 : Int32))) v2) 31 (Int32.toNatClampNeg (((hi 30 2) * (5 : Int32)) + (2 : Int32))) v3) 31 (Int32.toNatClampNeg (((hi 30 2) * (5 : Int32)) + (3 : Int32))) v4) 31 (Int32.toNatClampNeg (((hi 30 2) * (5 : Int32)) + (4 : Int32))) v5) 30 2 (((xu (xu (xu (xu (xu hi 31 (Int32.toNatClampNeg (((hi 30 2) * (5 : Int32)) + (0 : Int32))) v1) 31 (Int32.toNatClampNeg (((hi 30 2) * (5 : Int32)) + (1 : Int32))) v2) 31 (Int32.toNatClampNeg (((hi 30 2) * (5 : Int32)) + (2 : Int32))) v3) 31 (Int32.toNatClampNeg (((hi 30 2) * (5 : Int32)) + (3 : Int32))) v4) 31 (Int32.toNatClampNeg (((hi 30 2) * (5 : Int32)) + (4 : Int32))) v5) 30 2) + (1 : Int32))) 30 3 (((xu (xu (xu (xu (xu (xu hi 31 (Int32.toNatClampNeg (((hi 30 2) * (5 : Int32)) + (0 : Int32))) v1) 31 (Int32.toNatClampNeg (((hi 30 2) * (5 : Int32)) + (1 : Int32))) v2) 31 (Int32.toNatClampNeg (((hi 30 2) * (5 : Int32)) + (2 : Int32))) v3) 31 (Int32.toNatClampNeg (((hi 30 2) * (5 : Int32)) + (3 : Int32))) v4) 31 (Int32.toNatClampNeg (((hi 30 2) * (5 : Int32)) + (4 : Int32))) v5) 30 2 (((xu (xu (xu (xu (xu hi 31 (Int32.toNatClampNeg (((hi 30 2) * (5 : Int32)) + (0 : Int32))) v1) 31 (Int32.toNatClampNeg (((hi 30 2) * (5 : Int32)) + (1 : Int32))) v2) 31 (Int32.toNatClampNeg (((hi 30 2) * (5 : Int32)) + (2 : Int32))) v3) 31 (Int32.toNatClampNeg (((hi 30 2) * (5 : Int32)) + (3 : Int32))) v4) 31 (Int32.toNatClampNeg (((hi 30 2) * (5 : Int32)) + (4 : Int32))) v5) 30 2) + (1 : Int32))) 30 3) + w7)) 30 2), (xu (xu (xu (xu (xu (xu (xu hi 31 (Int32.toNatClampNeg (((hi 30 2) * (5 : Int32)) + (0 : Int32))) v1) 31 (Int32.toNatClampNeg (((hi 30 2) * (5 : Int32)) + (1 : Int32))) v2) 31 (Int32.toNatClampNeg (((hi 30 2) * (5 : Int32)) + (2 : Int32))) v3) 31 (Int32.toNatClampNeg (((hi 30 2) * (5 : Int32)) + (3 : Int32))) v4) 31 (Int32.toNatClampNeg (((hi 30 2) * (5 : Int32)) + (4 : Int32))) v5) 30 2 (((xu (xu (xu (xu (xu hi 31 (Int32.toNatClampNeg (((hi 30 2) * (5 : Int32)) + (0 : Int32))) v1) 31 (Int32.toNatClampNeg (((hi 30 2) * (5 : Int32)) + (1 : Int32))) v2) 31 (Int32.toNatClampNeg (((hi 30 2) * (5 : Int32)) + (2 : Int32))) v3) 31 (Int32.toNatClampNeg (((hi 30 2) * (5 : Int32)) + (3 : Int32))) v4) 31 (Int32.toNatClampNeg (((hi 30 2) * (5 : Int32)) + (4 : Int32))) v5) 30 2) + (1 : Int32))) 30 3 (((xu (xu (xu (xu (xu (xu hi 31 (Int32.toNatClampNeg (((hi 30 2) * (5 : Int32)) + (0 : Int32))) v1) 31 (Int32.toNatClampNeg (((hi 30 2) * (5 : Int32)) + (1 : Int32))) v2) 31 (Int32.toNatClampNeg (((hi 30 2) * (5 : Int32)) + (2 : Int32))) v3) 31 (Int32.toNatClampNeg (((hi 30 2) * (5 : Int32)) + (3 : Int32))) v4) 31 (Int32.toNatClampNeg (((hi 30 2) * (5 : Int32)) + (4 : Int32))) v5) 30 2 (((xu (xu (xu (xu (xu hi 31 (Int32.toNatClampNeg (((hi 30 2) * (5 : Int32)) + (0 : Int32))) v1) 31 (Int32.toNatClampNeg (((hi 30 2) * (5 : Int32)) + (1 : Int32))) v2) 31 (Int32.toNatClampNeg (((hi 30 2) * (5 : Int32)) + (2 : Int32))) v3) 31 (Int32.toNatClampNeg (((hi 30 2) * (5 : Int32)) + (3 : Int32))) v4) 31 (Int32.toNatClampNeg (((hi 30 2) * (5 : Int32)) + (4 : Int32))) v5) 30 2) + (1 : Int32))) 30 3) + w7)), hl, r)) else none else none else none else none else none
set_option maxRecDepth 20000 in
set_option maxHeartbeats 2000000 in
theorem r_X4_append (v1 : Int32) (v2 : Int32) (v3 : Int32) (v4 : Int32) (v5 : Int32) (hi : Nat → Nat → Int32) (hl : Nat → Nat → Int64) (r : xRr) (o : Int32 × xSt) (h : F_X4_append v1 v2 v3 v4 v5 hi hl r = some o) : xM yX4_append cX4_append 7 1 (1, 0, 0) z [.ref 30, .int v1, .int v2, .int v3, .int v4, .int v5] (xhp hi hl r) (xoI o) := by
  refine x_meth2 (C := RX4) (ini := false) (L := [some (.ref 30), some (.int v1), some (.int v2), some (.int v3), some (.int v4), some (.int v5), none]) rfl (by decide) (fun h9 => by cases h9) (by decide) (Nat.le_of_ble_eq_true rfl) rfl ?_
  refine x_aload_n (pc' := 1) dX4_append_0 rfl rfl ?_
  refine x_geti (pc' := 4) dX4_append_1 f_X4_18 (by decide) rfl rfl rfl ?_
  refine x_iconst (pc' := 5) (x := 5) dX4_append_4 (by decide) rfl ?_
  refine x_imul (pc' := 6) dX4_append_5 rfl ?_
  refine x_istore (pc' := 8) (L' := [some (.ref 30), some (.int v1), some (.int v2), some (.int v3), some (.int v4), some (.int v5), some (.int ((hi 30 2) * (5 : Int32)))]) dX4_append_6 (Nat.le_of_ble_eq_true rfl) rfl rfl ?_
  refine x_aload_n (pc' := 9) dX4_append_8 rfl rfl ?_
  refine x_getr (pc' := 12) (t := 31) dX4_append_9 f_X4_11 (by decide) rfl rfl rfl rfl ?_
  refine x_iload (pc' := 14) dX4_append_12 rfl rfl ?_
  refine x_iconst (pc' := 15) (x := 0) dX4_append_14 (by decide) rfl ?_
  refine x_iadd (pc' := 16) dX4_append_15 rfl ?_
  refine x_iload_n (pc' := 17) dX4_append_16 rfl rfl ?_
  refine xg_if h (fun g1 h => ?_)
  refine x_iast (pc' := 18) dX4_append_17 (by decide) rfl (xok_in g1) rfl ?_
  refine x_aload_n (pc' := 19) dX4_append_18 rfl rfl ?_
  refine x_getr (pc' := 22) (t := 31) dX4_append_19 f_X4_11 (by decide) rfl rfl rfl rfl ?_
  refine x_iload (pc' := 24) dX4_append_22 rfl rfl ?_
  refine x_iconst (pc' := 25) (x := 1) dX4_append_24 (by decide) rfl ?_
  refine x_iadd (pc' := 26) dX4_append_25 rfl ?_
  refine x_iload_n (pc' := 27) dX4_append_26 rfl rfl ?_
  refine xg_if h (fun g2 h => ?_)
  refine x_iast (pc' := 28) dX4_append_27 (by decide) rfl (xok_in g2) rfl ?_
  refine x_aload_n (pc' := 29) dX4_append_28 rfl rfl ?_
  refine x_getr (pc' := 32) (t := 31) dX4_append_29 f_X4_11 (by decide) rfl rfl rfl rfl ?_
  refine x_iload (pc' := 34) dX4_append_32 rfl rfl ?_
  refine x_iconst (pc' := 35) (x := 2) dX4_append_34 (by decide) rfl ?_
  refine x_iadd (pc' := 36) dX4_append_35 rfl ?_
  refine x_iload_n (pc' := 37) dX4_append_36 rfl rfl ?_
  refine xg_if h (fun g3 h => ?_)
  refine x_iast (pc' := 38) dX4_append_37 (by decide) rfl (xok_in g3) rfl ?_
  refine x_aload_n (pc' := 39) dX4_append_38 rfl rfl ?_
  refine x_getr (pc' := 42) (t := 31) dX4_append_39 f_X4_11 (by decide) rfl rfl rfl rfl ?_
  refine x_iload (pc' := 44) dX4_append_42 rfl rfl ?_
  refine x_iconst (pc' := 45) (x := 3) dX4_append_44 (by decide) rfl ?_
  refine x_iadd (pc' := 46) dX4_append_45 rfl ?_
  refine x_iload (pc' := 48) dX4_append_46 rfl rfl ?_
  refine xg_if h (fun g4 h => ?_)
  refine x_iast (pc' := 49) dX4_append_48 (by decide) rfl (xok_in g4) rfl ?_
  refine x_aload_n (pc' := 50) dX4_append_49 rfl rfl ?_
  refine x_getr (pc' := 53) (t := 31) dX4_append_50 f_X4_11 (by decide) rfl rfl rfl rfl ?_
  refine x_iload (pc' := 55) dX4_append_53 rfl rfl ?_
  refine x_iconst (pc' := 56) (x := 4) dX4_append_55 (by decide) rfl ?_
  refine x_iadd (pc' := 57) dX4_append_56 rfl ?_
  refine x_iload (pc' := 59) dX4_append_57 rfl rfl ?_
  refine xg_if h (fun g5 h => ?_)
  refine x_iast (pc' := 60) dX4_append_59 (by decide) rfl (xok_in g5) rfl ?_
  refine x_aload_n (pc' := 61) dX4_append_60 rfl rfl ?_
  refine x_dup (pc' := 62) dX4_append_61 rfl rfl ?_
  refine x_geti (pc' := 65) dX4_append_62 f_X4_18 (by decide) rfl rfl rfl ?_
  refine x_iconst (pc' := 66) (x := 1) dX4_append_65 (by decide) rfl ?_
  refine x_iadd (pc' := 67) dX4_append_66 rfl ?_
  refine x_puti (pc' := 70) dX4_append_67 f_X4_18 (Or.inl rfl) (by decide) rfl rfl rfl ?_
  refine x_aload_n (pc' := 71) dX4_append_70 rfl rfl ?_
  refine x_dup (pc' := 72) dX4_append_71 rfl rfl ?_
  refine x_geti (pc' := 75) dX4_append_72 f_X4_22 (by decide) rfl rfl rfl ?_
  refine x_iload_n (pc' := 76) dX4_append_75 rfl rfl ?_
  refine xg_bP h (fun w7 e6 h => ?_)
  refine x_callS (pc' := 79) (S := [.int ((xu (xu (xu (xu (xu (xu hi 31 (Int32.toNatClampNeg (((hi 30 2) * (5 : Int32)) + (0 : Int32))) v1) 31 (Int32.toNatClampNeg (((hi 30 2) * (5 : Int32)) + (1 : Int32))) v2) 31 (Int32.toNatClampNeg (((hi 30 2) * (5 : Int32)) + (2 : Int32))) v3) 31 (Int32.toNatClampNeg (((hi 30 2) * (5 : Int32)) + (3 : Int32))) v4) 31 (Int32.toNatClampNeg (((hi 30 2) * (5 : Int32)) + (4 : Int32))) v5) 30 2 (((xu (xu (xu (xu (xu hi 31 (Int32.toNatClampNeg (((hi 30 2) * (5 : Int32)) + (0 : Int32))) v1) 31 (Int32.toNatClampNeg (((hi 30 2) * (5 : Int32)) + (1 : Int32))) v2) 31 (Int32.toNatClampNeg (((hi 30 2) * (5 : Int32)) + (2 : Int32))) v3) 31 (Int32.toNatClampNeg (((hi 30 2) * (5 : Int32)) + (3 : Int32))) v4) 31 (Int32.toNatClampNeg (((hi 30 2) * (5 : Int32)) + (4 : Int32))) v5) 30 2) + (1 : Int32))) 30 3), .ref 30]) (As := [.int v1]) (b' := (0, 0, 0)) dX4_append_76 l_X4_25 m_X4_opens rfl rfl (Nat.le_of_ble_eq_true rfl) (Nat.le_of_ble_eq_true rfl) (Nat.le_of_ble_eq_true rfl) (Nat.le_of_ble_eq_true rfl) (r_X4_opens _ _ _ e6) rfl ?_
  refine x_iadd (pc' := 80) dX4_append_79 rfl ?_
  refine x_puti (pc' := 83) dX4_append_80 f_X4_22 (Or.inl rfl) (by decide) rfl rfl rfl ?_
  refine x_aload_n (pc' := 84) dX4_append_83 rfl rfl ?_
  refine x_geti (pc' := 87) dX4_append_84 f_X4_18 (by decide) rfl rfl rfl ?_
  obtain rfl := Option.some.inj h
  exact x_iret dX4_append_87 rfl rfl (Nat.le_of_ble_eq_true rfl) rfl
def F_X4_part (v1 : Int32) (v2 : Int32) (hi : Nat → Nat → Int32) (hl : Nat → Nat → Int64) (r : xRr) : Option (Int32 × xSt) := if xok ((v1 * (5 : Int32)) + v2) 80 = true then some ((hi 31 (Int32.toNatClampNeg ((v1 * (5 : Int32)) + v2))), hi, hl, r) else none
set_option maxRecDepth 20000 in
set_option maxHeartbeats 2000000 in
theorem r_X4_part (v1 : Int32) (v2 : Int32) (hi : Nat → Nat → Int32) (hl : Nat → Nat → Int64) (r : xRr) (o : Int32 × xSt) (h : F_X4_part v1 v2 hi hl r = some o) : xM yX4_part cX4_part 3 1 (0, 0, 0) z [.ref 30, .int v1, .int v2] (xhp hi hl r) (xoI o) := by
  refine x_meth2 (C := RX4) (ini := false) (L := [some (.ref 30), some (.int v1), some (.int v2)]) rfl (by decide) (fun h9 => by cases h9) (by decide) (Nat.le_of_ble_eq_true rfl) rfl ?_
  refine x_aload_n (pc' := 1) dX4_part_0 rfl rfl ?_
  refine x_getr (pc' := 4) (t := 31) dX4_part_1 f_X4_11 (by decide) rfl rfl rfl rfl ?_
  refine x_iload_n (pc' := 5) dX4_part_4 rfl rfl ?_
  refine x_iconst (pc' := 6) (x := 5) dX4_part_5 (by decide) rfl ?_
  refine x_imul (pc' := 7) dX4_part_6 rfl ?_
  refine x_iload_n (pc' := 8) dX4_part_7 rfl rfl ?_
  refine x_iadd (pc' := 9) dX4_part_8 rfl ?_
  refine xg_if h (fun g1 h => ?_)
  refine x_iald (pc' := 10) dX4_part_9 (by decide) rfl (xok_in g1) rfl ?_
  obtain rfl := Option.some.inj h
  exact x_iret dX4_part_10 rfl rfl (Nat.le_of_ble_eq_true rfl) rfl
def F_X4_dropLast (hi : Nat → Nat → Int32) (hl : Nat → Nat → Int64) (r : xRr) : Option (Int32 × xSt) := xbI (F_X4_part ((xu hi 30 2 ((hi 30 2) - (1 : Int32))) 30 2) (0 : Int32) (xu hi 30 2 ((hi 30 2) - (1 : Int32))) hl r) (fun w2 hi2 hl2 r2 => xbP (F_X4_opens w2) (fun w4 => some (((xu hi2 30 3 (((xu hi 30 2 ((hi 30 2) - (1 : Int32))) 30 3) - w4)) 30 2), (xu hi2 30 3 (((xu hi 30 2 ((hi 30 2) - (1 : Int32))) 30 3) - w4)), hl2, r2)))
set_option maxRecDepth 20000 in
set_option maxHeartbeats 2000000 in
theorem r_X4_dropLast (hi : Nat → Nat → Int32) (hl : Nat → Nat → Int64) (r : xRr) (o : Int32 × xSt) (h : F_X4_dropLast hi hl r = some o) : xM yX4_dropLast cX4_dropLast 1 1 (1, 0, 0) z [.ref 30] (xhp hi hl r) (xoI o) := by
  refine x_meth2 (C := RX4) (ini := false) (L := [some (.ref 30)]) rfl (by decide) (fun h9 => by cases h9) (by decide) (Nat.le_of_ble_eq_true rfl) rfl ?_
  refine x_aload_n (pc' := 1) dX4_dropLast_0 rfl rfl ?_
  refine x_dup (pc' := 2) dX4_dropLast_1 rfl rfl ?_
  refine x_geti (pc' := 5) dX4_dropLast_2 f_X4_18 (by decide) rfl rfl rfl ?_
  refine x_iconst (pc' := 6) (x := 1) dX4_dropLast_5 (by decide) rfl ?_
  refine x_isub (pc' := 7) dX4_dropLast_6 rfl ?_
  refine x_puti (pc' := 10) dX4_dropLast_7 f_X4_18 (Or.inl rfl) (by decide) rfl rfl rfl ?_
  refine x_aload_n (pc' := 11) dX4_dropLast_10 rfl rfl ?_
  refine x_dup (pc' := 12) dX4_dropLast_11 rfl rfl ?_
  refine x_geti (pc' := 15) dX4_dropLast_12 f_X4_22 (by decide) rfl rfl rfl ?_
  refine x_aload_n (pc' := 16) dX4_dropLast_15 rfl rfl ?_
  refine x_aload_n (pc' := 17) dX4_dropLast_16 rfl rfl ?_
  refine x_geti (pc' := 20) dX4_dropLast_17 f_X4_18 (by decide) rfl rfl rfl ?_
  refine x_iconst (pc' := 21) (x := 0) dX4_dropLast_20 (by decide) rfl ?_
  refine xg_bI h (fun w2 hi2 hl2 r2 e1 h => ?_)
  refine x_callV (pc' := 24) (S := [.int ((xu hi 30 2 ((hi 30 2) - (1 : Int32))) 30 3), .ref 30]) (As := [.int ((xu hi 30 2 ((hi 30 2) - (1 : Int32))) 30 2), .int (0 : Int32)]) (b' := (0, 0, 0)) dX4_dropLast_21 l_X4_29 m_X4_part rfl rfl (show 30 < 122 by decide) rfl (Nat.le_of_ble_eq_true rfl) (Nat.le_of_ble_eq_true rfl) (Nat.le_of_ble_eq_true rfl) (Nat.le_of_ble_eq_true rfl) (r_X4_part _ _ _ _ _ _ e1) rfl ?_
  refine xg_bP h (fun w4 e3 h => ?_)
  refine x_callS (pc' := 27) (S := [.int ((xu hi 30 2 ((hi 30 2) - (1 : Int32))) 30 3), .ref 30]) (As := [.int w2]) (b' := (0, 0, 0)) dX4_dropLast_24 l_X4_25 m_X4_opens rfl rfl (Nat.le_of_ble_eq_true rfl) (Nat.le_of_ble_eq_true rfl) (Nat.le_of_ble_eq_true rfl) (Nat.le_of_ble_eq_true rfl) (r_X4_opens _ _ _ e3) rfl ?_
  refine x_isub (pc' := 28) dX4_dropLast_27 rfl ?_
  refine x_puti (pc' := 31) dX4_dropLast_28 f_X4_22 (Or.inl rfl) (by decide) rfl rfl rfl ?_
  refine x_aload_n (pc' := 32) dX4_dropLast_31 rfl rfl ?_
  refine x_geti (pc' := 35) dX4_dropLast_32 f_X4_18 (by decide) rfl rfl rfl ?_
  obtain rfl := Option.some.inj h
  exact x_iret dX4_dropLast_35 rfl rfl (Nat.le_of_ble_eq_true rfl) rfl
def F_X4_endOf_4 : Nat → Int32 → Int32 → (Nat → Nat → Int32) → (Nat → Nat → Int64) → xRr → Option (Int32 × xSt)
  | 0, _, _, _, _, _ => none
  | n + 1, v2, v3, hi, hl, r => if (hi 30 2) ≤ v3 then some ((hi 30 2), hi, hl, r) else xbI (F_X4_part v3 (0 : Int32) hi hl r) (fun w3 hi3 hl3 r3 => xbP (F_X4_opens w3) (fun w5 => if (v2 + w5) = 0 then some (v3, hi3, hl3, r3) else (F_X4_endOf_4 n) (v2 + w5) (v3 + (1)) hi3 hl3 r3))
set_option maxRecDepth 20000 in
set_option maxHeartbeats 2000000 in
theorem r_X4_endOf_4 : ∀ (n : Nat) (v2 : Int32) (v3 : Int32) (d1 : Option Value) (hi : Nat → Nat → Int32) (hl : Nat → Nat → Int64) (r : xRr) (o : Int32 × xSt), F_X4_endOf_4 n v2 v3 hi hl r = some o → xR (RX4, cX4_endOf, 4, false, 1) (1, 0, 0) z 0 0 4 [some (.ref 30), d1, some (.int v2), some (.int v3)] [] (xhp hi hl r) (xoI o) := by
  intro n
  induction n with
  | zero =>
    intro v2 v3 d1 hi hl r o h
    have h : none = some o := h
    cases h
  | succ n ih =>
    intro v2 v3 d1 hi hl r o h
    refine x_iload_n (pc' := 5) dX4_endOf_4 rfl rfl ?_
    refine x_aload_n (pc' := 6) dX4_endOf_5 rfl rfl ?_
    refine x_geti (pc' := 9) dX4_endOf_6 f_X4_18 (by decide) rfl rfl rfl ?_
    refine xg_ite h (fun g1 h => ?_) (fun g1 h => ?_)
    · refine x_icmp_ge (tgt := 36) (pc' := 12) dX4_endOf_9 (by decide) rfl (fun _ => ?_) (fun hn => absurd g1 hn)
      refine x_aload_n (pc' := 37) dX4_endOf_36 rfl rfl ?_
      refine x_geti (pc' := 40) dX4_endOf_37 f_X4_18 (by decide) rfl rfl rfl ?_
      obtain rfl := Option.some.inj h
      exact x_iret dX4_endOf_40 rfl rfl (Nat.le_of_ble_eq_true rfl) rfl
    · refine x_icmp_ge (tgt := 36) (pc' := 12) dX4_endOf_9 (by decide) rfl (fun hn => absurd hn g1) (fun _ => ?_)
      refine x_iload_n (pc' := 13) dX4_endOf_12 rfl rfl ?_
      refine x_aload_n (pc' := 14) dX4_endOf_13 rfl rfl ?_
      refine x_iload_n (pc' := 15) dX4_endOf_14 rfl rfl ?_
      refine x_iconst (pc' := 16) (x := 0) dX4_endOf_15 (by decide) rfl ?_
      refine xg_bI h (fun w3 hi3 hl3 r3 e2 h => ?_)
      refine x_callV (pc' := 19) (S := [.int v2]) (As := [.int v3, .int (0 : Int32)]) (b' := (0, 0, 0)) dX4_endOf_16 l_X4_29 m_X4_part rfl rfl (show 30 < 122 by decide) rfl (Nat.le_of_ble_eq_true rfl) (Nat.le_of_ble_eq_true rfl) (Nat.le_of_ble_eq_true rfl) (Nat.le_of_ble_eq_true rfl) (r_X4_part _ _ _ _ _ _ e2) rfl ?_
      refine xg_bP h (fun w5 e4 h => ?_)
      refine x_callS (pc' := 22) (S := [.int v2]) (As := [.int w3]) (b' := (0, 0, 0)) dX4_endOf_19 l_X4_25 m_X4_opens rfl rfl (Nat.le_of_ble_eq_true rfl) (Nat.le_of_ble_eq_true rfl) (Nat.le_of_ble_eq_true rfl) (Nat.le_of_ble_eq_true rfl) (r_X4_opens _ _ _ e4) rfl ?_
      refine x_iadd (pc' := 23) dX4_endOf_22 rfl ?_
      refine x_istore_n (pc' := 24) (L' := [some (.ref 30), (xcl d1), some (.int (v2 + w5)), some (.int v3)]) dX4_endOf_23 (Nat.le_of_ble_eq_true rfl) rfl rfl ?_
      refine x_iload_n (pc' := 25) dX4_endOf_24 rfl rfl ?_
      refine xg_ite h (fun g6 h => ?_) (fun g6 h => ?_)
      · refine x_if_ne (tgt := 30) (pc' := 28) dX4_endOf_25 (by decide) rfl (fun hn => absurd g6 hn) (fun _ => ?_)
        refine x_iload_n (pc' := 29) dX4_endOf_28 rfl rfl ?_
        obtain rfl := Option.some.inj h
        exact x_iret dX4_endOf_29 rfl rfl (Nat.le_of_ble_eq_true rfl) rfl
      · refine x_if_ne (tgt := 30) (pc' := 28) dX4_endOf_25 (by decide) rfl (fun _ => ?_) (fun hn => absurd hn g6)
        refine x_iinc (pc' := 33) (v := (v3 + (1))) (L' := [some (.ref 30), (xcl d1), some (.int (v2 + w5)), some (.int (v3 + (1)))]) dX4_endOf_30 rfl rfl (Nat.le_of_ble_eq_true rfl) rfl rfl ?_
        refine x_goto (tgt := 4) dX4_endOf_33 (by decide) ?_
        exact ih _ _ _ _ _ _ _ h
def F_X4_endOf (v1 : Int32) (hi : Nat → Nat → Int32) (hl : Nat → Nat → Int64) (r : xRr) : Option (Int32 × xSt) := F_X4_endOf_4 1000000 (0 : Int32) v1 hi hl r
set_option maxRecDepth 20000 in
set_option maxHeartbeats 2000000 in
theorem r_X4_endOf (v1 : Int32) (hi : Nat → Nat → Int32) (hl : Nat → Nat → Int64) (r : xRr) (o : Int32 × xSt) (h : F_X4_endOf v1 hi hl r = some o) : xM yX4_endOf cX4_endOf 4 1 (1, 0, 0) z [.ref 30, .int v1] (xhp hi hl r) (xoI o) := by
  refine x_meth2 (C := RX4) (ini := false) (L := [some (.ref 30), some (.int v1), none, none]) rfl (by decide) (fun h9 => by cases h9) (by decide) (Nat.le_of_ble_eq_true rfl) rfl ?_
  refine x_iconst (pc' := 1) (x := 0) dX4_endOf_0 (by decide) rfl ?_
  refine x_istore_n (pc' := 2) (L' := [some (.ref 30), some (.int v1), some (.int (0 : Int32)), none]) dX4_endOf_1 (Nat.le_of_ble_eq_true rfl) rfl rfl ?_
  refine x_iload_n (pc' := 3) dX4_endOf_2 rfl rfl ?_
  refine x_istore_n (pc' := 4) (L' := [some (.ref 30), some (.int v1), some (.int (0 : Int32)), some (.int v1)]) dX4_endOf_3 (Nat.le_of_ble_eq_true rfl) rfl rfl ?_
  exact r_X4_endOf_4 1000000 _ _ _ _ _ _ _ h
def F_X4_has (v1 : Int32) (hi : Nat → Nat → Int32) (hl : Nat → Nat → Int64) (r : xRr) : Option (Int32 × xSt) := if v1 < 0 then some ((0 : Int32), hi, hl, r) else if (hi 30 2) ≤ v1 then some ((0 : Int32), hi, hl, r) else some ((1 : Int32), hi, hl, r)
set_option maxRecDepth 20000 in
set_option maxHeartbeats 2000000 in
theorem r_X4_has (v1 : Int32) (hi : Nat → Nat → Int32) (hl : Nat → Nat → Int64) (r : xRr) (o : Int32 × xSt) (h : F_X4_has v1 hi hl r = some o) : xM yX4_has cX4_has 2 3 (0, 0, 0) z [.ref 30, .int v1] (xhp hi hl r) (xoI o) := by
  refine x_meth2 (C := RX4) (ini := false) (L := [some (.ref 30), some (.int v1)]) rfl (by decide) (fun h9 => by cases h9) (by decide) (Nat.le_of_ble_eq_true rfl) rfl ?_
  refine x_iload_n (pc' := 1) dX4_has_0 rfl rfl ?_
  refine xg_ite h (fun g1 h => ?_) (fun g1 h => ?_)
  · refine x_if_lt (tgt := 16) (pc' := 4) dX4_has_1 (by decide) rfl (fun _ => ?_) (fun hn => absurd g1 hn)
    refine x_iconst (pc' := 17) (x := 0) dX4_has_16 (by decide) rfl ?_
    obtain rfl := Option.some.inj h
    exact x_zret dX4_has_17 rfl (Or.inl rfl) rfl (Nat.le_of_ble_eq_true rfl) rfl
  · refine x_if_lt (tgt := 16) (pc' := 4) dX4_has_1 (by decide) rfl (fun hn => absurd hn g1) (fun _ => ?_)
    refine x_iload_n (pc' := 5) dX4_has_4 rfl rfl ?_
    refine x_aload_n (pc' := 6) dX4_has_5 rfl rfl ?_
    refine x_geti (pc' := 9) dX4_has_6 f_X4_18 (by decide) rfl rfl rfl ?_
    refine xg_ite h (fun g2 h => ?_) (fun g2 h => ?_)
    · refine x_icmp_ge (tgt := 16) (pc' := 12) dX4_has_9 (by decide) rfl (fun _ => ?_) (fun hn => absurd g2 hn)
      refine x_iconst (pc' := 17) (x := 0) dX4_has_16 (by decide) rfl ?_
      obtain rfl := Option.some.inj h
      exact x_zret dX4_has_17 rfl (Or.inl rfl) rfl (Nat.le_of_ble_eq_true rfl) rfl
    · refine x_icmp_ge (tgt := 16) (pc' := 12) dX4_has_9 (by decide) rfl (fun hn => absurd hn g2) (fun _ => ?_)
      refine x_iconst (pc' := 13) (x := 1) dX4_has_12 (by decide) rfl ?_
      refine x_goto (tgt := 17) dX4_has_13 (by decide) ?_
      obtain rfl := Option.some.inj h
      exact x_zret dX4_has_17 rfl (Or.inr rfl) rfl (Nat.le_of_ble_eq_true rfl) rfl
def F_X4_turnAnywhere_2 : Nat → Int32 → (Nat → Nat → Int32) → (Nat → Nat → Int64) → xRr → Option (Int32 × xSt)
  | 0, _, _, _, _ => none
  | n + 1, v1, hi, hl, r => if (hi 30 2) ≤ v1 then some ((0 : Int32), hi, hl, r) else xbI (F_X4_part v1 (0 : Int32) hi hl r) (fun w3 hi3 hl3 r3 => if (5 : Int32) ≤ w3 then some ((1 : Int32), hi3, hl3, r3) else xbI (F_X4_part v1 (2 : Int32) hi3 hl3 r3) (fun w6 hi6 hl6 r6 => if (12 : Int32) ≤ w6 then some ((1 : Int32), hi6, hl6, r6) else xbI (F_X4_part v1 (4 : Int32) hi6 hl6 r6) (fun w9 hi9 hl9 r9 => if w9 < (12 : Int32) then (F_X4_turnAnywhere_2 n) (v1 + (1)) hi9 hl9 r9 else some ((1 : Int32), hi9, hl9, r9))))
set_option maxRecDepth 20000 in
set_option maxHeartbeats 2000000 in
theorem r_X4_turnAnywhere_2 : ∀ (n : Nat) (v1 : Int32) (hi : Nat → Nat → Int32) (hl : Nat → Nat → Int64) (r : xRr) (o : Int32 × xSt), F_X4_turnAnywhere_2 n v1 hi hl r = some o → xR (RX4, cX4_turnAnywhere, 2, false, 3) (1, 0, 0) z 0 0 2 [some (.ref 30), some (.int v1)] [] (xhp hi hl r) (xoI o) := by
  intro n
  induction n with
  | zero =>
    intro v1 hi hl r o h
    have h : none = some o := h
    cases h
  | succ n ih =>
    intro v1 hi hl r o h
    refine x_iload_n (pc' := 3) dX4_turnAnywhere_2 rfl rfl ?_
    refine x_aload_n (pc' := 4) dX4_turnAnywhere_3 rfl rfl ?_
    refine x_geti (pc' := 7) dX4_turnAnywhere_4 f_X4_18 (by decide) rfl rfl rfl ?_
    refine xg_ite h (fun g1 h => ?_) (fun g1 h => ?_)
    · refine x_icmp_ge (tgt := 50) (pc' := 10) dX4_turnAnywhere_7 (by decide) rfl (fun _ => ?_) (fun hn => absurd g1 hn)
      refine x_iconst (pc' := 51) (x := 0) dX4_turnAnywhere_50 (by decide) rfl ?_
      obtain rfl := Option.some.inj h
      exact x_zret dX4_turnAnywhere_51 rfl (Or.inl rfl) rfl (Nat.le_of_ble_eq_true rfl) rfl
    · refine x_icmp_ge (tgt := 50) (pc' := 10) dX4_turnAnywhere_7 (by decide) rfl (fun hn => absurd hn g1) (fun _ => ?_)
      refine x_aload_n (pc' := 11) dX4_turnAnywhere_10 rfl rfl ?_
      refine x_iload_n (pc' := 12) dX4_turnAnywhere_11 rfl rfl ?_
      refine x_iconst (pc' := 13) (x := 0) dX4_turnAnywhere_12 (by decide) rfl ?_
      refine xg_bI h (fun w3 hi3 hl3 r3 e2 h => ?_)
      refine x_callV (pc' := 16) (S := []) (As := [.int v1, .int (0 : Int32)]) (b' := (0, 0, 0)) dX4_turnAnywhere_13 l_X4_29 m_X4_part rfl rfl (show 30 < 122 by decide) rfl (Nat.le_of_ble_eq_true rfl) (Nat.le_of_ble_eq_true rfl) (Nat.le_of_ble_eq_true rfl) (Nat.le_of_ble_eq_true rfl) (r_X4_part _ _ _ _ _ _ e2) rfl ?_
      refine x_iconst (pc' := 17) (x := 5) dX4_turnAnywhere_16 (by decide) rfl ?_
      refine xg_ite h (fun g4 h => ?_) (fun g4 h => ?_)
      · refine x_icmp_ge (tgt := 42) (pc' := 20) dX4_turnAnywhere_17 (by decide) rfl (fun _ => ?_) (fun hn => absurd g4 hn)
        refine x_iconst (pc' := 43) (x := 1) dX4_turnAnywhere_42 (by decide) rfl ?_
        obtain rfl := Option.some.inj h
        exact x_zret dX4_turnAnywhere_43 rfl (Or.inr rfl) rfl (Nat.le_of_ble_eq_true rfl) rfl
      · refine x_icmp_ge (tgt := 42) (pc' := 20) dX4_turnAnywhere_17 (by decide) rfl (fun hn => absurd hn g4) (fun _ => ?_)
        refine x_aload_n (pc' := 21) dX4_turnAnywhere_20 rfl rfl ?_
        refine x_iload_n (pc' := 22) dX4_turnAnywhere_21 rfl rfl ?_
        refine x_iconst (pc' := 23) (x := 2) dX4_turnAnywhere_22 (by decide) rfl ?_
        refine xg_bI h (fun w6 hi6 hl6 r6 e5 h => ?_)
        refine x_callV (pc' := 26) (S := []) (As := [.int v1, .int (2 : Int32)]) (b' := (0, 0, 0)) dX4_turnAnywhere_23 l_X4_29 m_X4_part rfl rfl (show 30 < 122 by decide) rfl (Nat.le_of_ble_eq_true rfl) (Nat.le_of_ble_eq_true rfl) (Nat.le_of_ble_eq_true rfl) (Nat.le_of_ble_eq_true rfl) (r_X4_part _ _ _ _ _ _ e5) rfl ?_
        refine x_bipush (pc' := 28) (x := 12) dX4_turnAnywhere_26 (by decide) rfl ?_
        refine xg_ite h (fun g7 h => ?_) (fun g7 h => ?_)
        · refine x_icmp_ge (tgt := 42) (pc' := 31) dX4_turnAnywhere_28 (by decide) rfl (fun _ => ?_) (fun hn => absurd g7 hn)
          refine x_iconst (pc' := 43) (x := 1) dX4_turnAnywhere_42 (by decide) rfl ?_
          obtain rfl := Option.some.inj h
          exact x_zret dX4_turnAnywhere_43 rfl (Or.inr rfl) rfl (Nat.le_of_ble_eq_true rfl) rfl
        · refine x_icmp_ge (tgt := 42) (pc' := 31) dX4_turnAnywhere_28 (by decide) rfl (fun hn => absurd hn g7) (fun _ => ?_)
          refine x_aload_n (pc' := 32) dX4_turnAnywhere_31 rfl rfl ?_
          refine x_iload_n (pc' := 33) dX4_turnAnywhere_32 rfl rfl ?_
          refine x_iconst (pc' := 34) (x := 4) dX4_turnAnywhere_33 (by decide) rfl ?_
          refine xg_bI h (fun w9 hi9 hl9 r9 e8 h => ?_)
          refine x_callV (pc' := 37) (S := []) (As := [.int v1, .int (4 : Int32)]) (b' := (0, 0, 0)) dX4_turnAnywhere_34 l_X4_29 m_X4_part rfl rfl (show 30 < 122 by decide) rfl (Nat.le_of_ble_eq_true rfl) (Nat.le_of_ble_eq_true rfl) (Nat.le_of_ble_eq_true rfl) (Nat.le_of_ble_eq_true rfl) (r_X4_part _ _ _ _ _ _ e8) rfl ?_
          refine x_bipush (pc' := 39) (x := 12) dX4_turnAnywhere_37 (by decide) rfl ?_
          refine xg_ite h (fun g10 h => ?_) (fun g10 h => ?_)
          · refine x_icmp_lt (tgt := 44) (pc' := 42) dX4_turnAnywhere_39 (by decide) rfl (fun _ => ?_) (fun hn => absurd g10 hn)
            refine x_iinc (pc' := 47) (v := (v1 + (1))) (L' := [some (.ref 30), some (.int (v1 + (1)))]) dX4_turnAnywhere_44 rfl rfl (Nat.le_of_ble_eq_true rfl) rfl rfl ?_
            refine x_goto (tgt := 2) dX4_turnAnywhere_47 (by decide) ?_
            exact ih _ _ _ _ _ h
          · refine x_icmp_lt (tgt := 44) (pc' := 42) dX4_turnAnywhere_39 (by decide) rfl (fun hn => absurd hn g10) (fun _ => ?_)
            refine x_iconst (pc' := 43) (x := 1) dX4_turnAnywhere_42 (by decide) rfl ?_
            obtain rfl := Option.some.inj h
            exact x_zret dX4_turnAnywhere_43 rfl (Or.inr rfl) rfl (Nat.le_of_ble_eq_true rfl) rfl
def F_X4_turnAnywhere (hi : Nat → Nat → Int32) (hl : Nat → Nat → Int64) (r : xRr) : Option (Int32 × xSt) := F_X4_turnAnywhere_2 1000000 (0 : Int32) hi hl r
set_option maxRecDepth 20000 in
set_option maxHeartbeats 2000000 in
theorem r_X4_turnAnywhere (hi : Nat → Nat → Int32) (hl : Nat → Nat → Int64) (r : xRr) (o : Int32 × xSt) (h : F_X4_turnAnywhere hi hl r = some o) : xM yX4_turnAnywhere cX4_turnAnywhere 2 3 (1, 0, 0) z [.ref 30] (xhp hi hl r) (xoI o) := by
  refine x_meth2 (C := RX4) (ini := false) (L := [some (.ref 30), none]) rfl (by decide) (fun h9 => by cases h9) (by decide) (Nat.le_of_ble_eq_true rfl) rfl ?_
  refine x_iconst (pc' := 1) (x := 0) dX4_turnAnywhere_0 (by decide) rfl ?_
  refine x_istore_n (pc' := 2) (L' := [some (.ref 30), some (.int (0 : Int32))]) dX4_turnAnywhere_1 (Nat.le_of_ble_eq_true rfl) rfl rfl ?_
  exact r_X4_turnAnywhere_2 1000000 _ _ _ _ _ h
def F_X4_lieAs_2 : Nat → Nat → Int32 → (Nat → Nat → Int32) → (Nat → Nat → Int64) → xRr → Option (xSt)
  | 0, _, _, _, _, _ => none
  | n + 1, v1, v2, hi, hl, r => if (hi 30 2) ≤ v2 then if xcpG 32 31 0 (0 : Int32) (0 : Int32) ((hi 30 2) * (5 : Int32)) = true then some ((xcp hi 32 31 (Int32.toNatClampNeg (0 : Int32)) (Int32.toNatClampNeg (0 : Int32)) (Int32.toNatClampNeg ((hi 30 2) * (5 : Int32)))), hl, r) else none else if xokA v1 0 v2 = true then if xcpG 31 32 0 ((hi v1 (Int32.toNatClampNeg v2)) * (5 : Int32)) (v2 * (5 : Int32)) (5 : Int32) = true then (F_X4_lieAs_2 n) v1 (v2 + (1)) (xcp hi 31 32 (Int32.toNatClampNeg ((hi v1 (Int32.toNatClampNeg v2)) * (5 : Int32))) (Int32.toNatClampNeg (v2 * (5 : Int32))) (Int32.toNatClampNeg (5 : Int32))) hl r else none else none
set_option maxRecDepth 20000 in
set_option maxHeartbeats 2000000 in
theorem r_X4_lieAs_2 : ∀ (n : Nat) (v1 : Nat) (v2 : Int32) (hi : Nat → Nat → Int32) (hl : Nat → Nat → Int64) (r : xRr) (o : xSt), F_X4_lieAs_2 n v1 v2 hi hl r = some o → xR (RX4, cX4_lieAs, 3, false, 0) (1, 0, 0) z 0 0 2 [some (.ref 30), some (.ref v1), some (.int v2)] [] (xhp hi hl r) (xoV o) := by
  intro n
  induction n with
  | zero =>
    intro v1 v2 hi hl r o h
    have h : none = some o := h
    cases h
  | succ n ih =>
    intro v1 v2 hi hl r o h
    refine x_iload_n (pc' := 3) dX4_lieAs_2 rfl rfl ?_
    refine x_aload_n (pc' := 4) dX4_lieAs_3 rfl rfl ?_
    refine x_geti (pc' := 7) dX4_lieAs_4 f_X4_18 (by decide) rfl rfl rfl ?_
    refine xg_ite h (fun g1 h => ?_) (fun g1 h => ?_)
    · refine x_icmp_ge (tgt := 36) (pc' := 10) dX4_lieAs_7 (by decide) rfl (fun _ => ?_) (fun hn => absurd g1 hn)
      refine x_aload_n (pc' := 37) dX4_lieAs_36 rfl rfl ?_
      refine x_getr (pc' := 40) (t := 32) dX4_lieAs_37 f_X4_15 (by decide) rfl rfl rfl rfl ?_
      refine x_iconst (pc' := 41) (x := 0) dX4_lieAs_40 (by decide) rfl ?_
      refine x_aload_n (pc' := 42) dX4_lieAs_41 rfl rfl ?_
      refine x_getr (pc' := 45) (t := 31) dX4_lieAs_42 f_X4_11 (by decide) rfl rfl rfl rfl ?_
      refine x_iconst (pc' := 46) (x := 0) dX4_lieAs_45 (by decide) rfl ?_
      refine x_aload_n (pc' := 47) dX4_lieAs_46 rfl rfl ?_
      refine x_geti (pc' := 50) dX4_lieAs_47 f_X4_18 (by decide) rfl rfl rfl ?_
      refine x_iconst (pc' := 51) (x := 5) dX4_lieAs_50 (by decide) rfl ?_
      refine x_imul (pc' := 52) dX4_lieAs_51 rfl ?_
      refine xg_if h (fun g2 h => ?_)
      refine x_copi (pc' := 55) dX4_lieAs_52 l_X4_33 w_nat w_acs w_sys (xcpG_1 g2) (xcpG_2 g2) (xcpG_3 g2) (xcpG_4 g2) (xcpG_5 g2) (Nat.le_of_ble_eq_true rfl) (Nat.le_of_ble_eq_true rfl) rfl ?_
      obtain rfl := Option.some.inj h
      exact x_vret dX4_lieAs_55 rfl rfl (Nat.le_of_ble_eq_true rfl) rfl
    · refine x_icmp_ge (tgt := 36) (pc' := 10) dX4_lieAs_7 (by decide) rfl (fun hn => absurd hn g1) (fun _ => ?_)
      refine x_aload_n (pc' := 11) dX4_lieAs_10 rfl rfl ?_
      refine x_getr (pc' := 14) (t := 31) dX4_lieAs_11 f_X4_11 (by decide) rfl rfl rfl rfl ?_
      refine x_aload_n (pc' := 15) dX4_lieAs_14 rfl rfl ?_
      refine x_iload_n (pc' := 16) dX4_lieAs_15 rfl rfl ?_
      refine xg_if h (fun g3 h => ?_)
      refine x_iald (pc' := 17) dX4_lieAs_16 (xokA_lt g3) (xokA_sh g3) (xokA_in g3) rfl ?_
      refine x_iconst (pc' := 18) (x := 5) dX4_lieAs_17 (by decide) rfl ?_
      refine x_imul (pc' := 19) dX4_lieAs_18 rfl ?_
      refine x_aload_n (pc' := 20) dX4_lieAs_19 rfl rfl ?_
      refine x_getr (pc' := 23) (t := 32) dX4_lieAs_20 f_X4_15 (by decide) rfl rfl rfl rfl ?_
      refine x_iload_n (pc' := 24) dX4_lieAs_23 rfl rfl ?_
      refine x_iconst (pc' := 25) (x := 5) dX4_lieAs_24 (by decide) rfl ?_
      refine x_imul (pc' := 26) dX4_lieAs_25 rfl ?_
      refine x_iconst (pc' := 27) (x := 5) dX4_lieAs_26 (by decide) rfl ?_
      refine xg_if h (fun g4 h => ?_)
      refine x_copi (pc' := 30) dX4_lieAs_27 l_X4_33 w_nat w_acs w_sys (xcpG_1 g4) (xcpG_2 g4) (xcpG_3 g4) (xcpG_4 g4) (xcpG_5 g4) (Nat.le_of_ble_eq_true rfl) (Nat.le_of_ble_eq_true rfl) rfl ?_
      refine x_iinc (pc' := 33) (v := (v2 + (1))) (L' := [some (.ref 30), some (.ref v1), some (.int (v2 + (1)))]) dX4_lieAs_30 rfl rfl (Nat.le_of_ble_eq_true rfl) rfl rfl ?_
      refine x_goto (tgt := 2) dX4_lieAs_33 (by decide) ?_
      exact ih _ _ _ _ _ _ h
def F_X4_lieAs (v1 : Nat) (hi : Nat → Nat → Int32) (hl : Nat → Nat → Int64) (r : xRr) : Option (xSt) := F_X4_lieAs_2 1000000 v1 (0 : Int32) hi hl r
set_option maxRecDepth 20000 in
set_option maxHeartbeats 2000000 in
theorem r_X4_lieAs (v1 : Nat) (hi : Nat → Nat → Int32) (hl : Nat → Nat → Int64) (r : xRr) (o : xSt) (h : F_X4_lieAs v1 hi hl r = some o) : xM yX4_lieAs cX4_lieAs 3 0 (1, 0, 0) z [.ref 30, .ref v1] (xhp hi hl r) (xoV o) := by
  refine x_meth2 (C := RX4) (ini := false) (L := [some (.ref 30), some (.ref v1), none]) rfl (by decide) (fun h9 => by cases h9) (by decide) (Nat.le_of_ble_eq_true rfl) rfl ?_
  refine x_iconst (pc' := 1) (x := 0) dX4_lieAs_0 (by decide) rfl ?_
  refine x_istore_n (pc' := 2) (L' := [some (.ref 30), some (.ref v1), some (.int (0 : Int32))]) dX4_lieAs_1 (Nat.le_of_ble_eq_true rfl) rfl rfl ?_
  exact r_X4_lieAs_2 1000000 _ _ _ _ _ _ h
def F_X8_placeInBank_12 : Nat → Int32 → Int32 → Int32 → (Nat → Nat → Int32) → (Nat → Nat → Int64) → xRr → Option (Int32 × xSt)
  | 0, _, _, _, _, _, _ => none
  | n + 1, v1, v3, v4, hi, hl, r => if v4 < 0 then some (v3, hi, hl, r) else if xok ((v1 * (4 : Int32)) + v4) 32 = true then if v3 < 0 then some (((-1000) : Int32), hi, hl, r) else if xok (hi 10 (Int32.toNatClampNeg ((v1 * (4 : Int32)) + v4))) 8 = true then if v3 < (hi 11 (Int32.toNatClampNeg (hi 10 (Int32.toNatClampNeg ((v1 * (4 : Int32)) + v4))))) then (F_X8_placeInBank_12 n) v1 ((hi 7 (Int32.toNatClampNeg (hi 10 (Int32.toNatClampNeg ((v1 * (4 : Int32)) + v4))))) + ((hi 8 (Int32.toNatClampNeg (hi 10 (Int32.toNatClampNeg ((v1 * (4 : Int32)) + v4))))) * v3)) (v4 + (-1)) hi hl r else some (((-1000) : Int32), hi, hl, r) else none else none
set_option maxRecDepth 20000 in
set_option maxHeartbeats 2000000 in
theorem r_X8_placeInBank_12 : ∀ (n : Nat) (v1 : Int32) (v3 : Int32) (v4 : Int32) (d2 : Option Value) (d5 : Option Value) (hi : Nat → Nat → Int32) (hl : Nat → Nat → Int64) (r : xRr) (o : Int32 × xSt), F_X8_placeInBank_12 n v1 v3 v4 hi hl r = some o → xR (RX8, cX8_placeInBank, 6, false, 1) (0, 0, 0) z 0 0 12 [some (.ref 6), some (.int v1), d2, some (.int v3), some (.int v4), d5] [] (xhp hi hl r) (xoI o) := by
  intro n
  induction n with
  | zero =>
    intro v1 v3 v4 d2 d5 hi hl r o h
    have h : none = some o := h
    cases h
  | succ n ih =>
    intro v1 v3 v4 d2 d5 hi hl r o h
    refine x_iload (pc' := 14) dX8_placeInBank_12 rfl rfl ?_
    refine xg_ite h (fun g1 h => ?_) (fun g1 h => ?_)
    · refine x_if_lt (tgt := 73) (pc' := 17) dX8_placeInBank_14 (by decide) rfl (fun _ => ?_) (fun hn => absurd g1 hn)
      refine x_iload_n (pc' := 74) dX8_placeInBank_73 rfl rfl ?_
      obtain rfl := Option.some.inj h
      exact x_iret dX8_placeInBank_74 rfl rfl (Nat.le_of_ble_eq_true rfl) rfl
    · refine x_if_lt (tgt := 73) (pc' := 17) dX8_placeInBank_14 (by decide) rfl (fun hn => absurd hn g1) (fun _ => ?_)
      refine x_aload_n (pc' := 18) dX8_placeInBank_17 rfl rfl ?_
      refine x_getr (pc' := 21) (t := 10) dX8_placeInBank_18 f_X8_21 (by decide) rfl rfl rfl rfl ?_
      refine x_iload_n (pc' := 22) dX8_placeInBank_21 rfl rfl ?_
      refine x_iconst (pc' := 23) (x := 4) dX8_placeInBank_22 (by decide) rfl ?_
      refine x_imul (pc' := 24) dX8_placeInBank_23 rfl ?_
      refine x_iload (pc' := 26) dX8_placeInBank_24 rfl rfl ?_
      refine x_iadd (pc' := 27) dX8_placeInBank_26 rfl ?_
      refine xg_if h (fun g2 h => ?_)
      refine x_iald (pc' := 28) dX8_placeInBank_27 (by decide) rfl (xok_in g2) rfl ?_
      refine x_istore (pc' := 30) (L' := [some (.ref 6), some (.int v1), d2, some (.int v3), some (.int v4), some (.int (hi 10 (Int32.toNatClampNeg ((v1 * (4 : Int32)) + v4))))]) dX8_placeInBank_28 (Nat.le_of_ble_eq_true rfl) rfl rfl ?_
      refine x_iload_n (pc' := 31) dX8_placeInBank_30 rfl rfl ?_
      refine xg_ite h (fun g3 h => ?_) (fun g3 h => ?_)
      · refine x_if_lt (tgt := 45) (pc' := 34) dX8_placeInBank_31 (by decide) rfl (fun _ => ?_) (fun hn => absurd g3 hn)
        refine x_sipush (pc' := 48) (x := (-1000)) dX8_placeInBank_45 (by decide) rfl ?_
        obtain rfl := Option.some.inj h
        exact x_iret dX8_placeInBank_48 rfl rfl (Nat.le_of_ble_eq_true rfl) rfl
      · refine x_if_lt (tgt := 45) (pc' := 34) dX8_placeInBank_31 (by decide) rfl (fun hn => absurd hn g3) (fun _ => ?_)
        refine x_iload_n (pc' := 35) dX8_placeInBank_34 rfl rfl ?_
        refine x_aload_n (pc' := 36) dX8_placeInBank_35 rfl rfl ?_
        refine x_getr (pc' := 39) (t := 11) dX8_placeInBank_36 f_X8_24 (by decide) rfl rfl rfl rfl ?_
        refine x_iload (pc' := 41) dX8_placeInBank_39 rfl rfl ?_
        refine xg_if h (fun g4 h => ?_)
        refine x_iald (pc' := 42) dX8_placeInBank_41 (by decide) rfl (xok_in g4) rfl ?_
        refine xg_ite h (fun g5 h => ?_) (fun g5 h => ?_)
        · refine x_icmp_lt (tgt := 49) (pc' := 45) dX8_placeInBank_42 (by decide) rfl (fun _ => ?_) (fun hn => absurd g5 hn)
          refine x_aload_n (pc' := 50) dX8_placeInBank_49 rfl rfl ?_
          refine x_getr (pc' := 53) (t := 7) dX8_placeInBank_50 f_X8_9 (by decide) rfl rfl rfl rfl ?_
          refine x_iload (pc' := 55) dX8_placeInBank_53 rfl rfl ?_
          refine x_iald (pc' := 56) dX8_placeInBank_55 (by decide) rfl (xok_in g4) rfl ?_
          refine x_aload_n (pc' := 57) dX8_placeInBank_56 rfl rfl ?_
          refine x_getr (pc' := 60) (t := 8) dX8_placeInBank_57 f_X8_15 (by decide) rfl rfl rfl rfl ?_
          refine x_iload (pc' := 62) dX8_placeInBank_60 rfl rfl ?_
          refine x_iald (pc' := 63) dX8_placeInBank_62 (by decide) rfl (xok_in g4) rfl ?_
          refine x_iload_n (pc' := 64) dX8_placeInBank_63 rfl rfl ?_
          refine x_imul (pc' := 65) dX8_placeInBank_64 rfl ?_
          refine x_iadd (pc' := 66) dX8_placeInBank_65 rfl ?_
          refine x_istore_n (pc' := 67) (L' := [some (.ref 6), some (.int v1), (xcl d2), some (.int ((hi 7 (Int32.toNatClampNeg (hi 10 (Int32.toNatClampNeg ((v1 * (4 : Int32)) + v4))))) + ((hi 8 (Int32.toNatClampNeg (hi 10 (Int32.toNatClampNeg ((v1 * (4 : Int32)) + v4))))) * v3))), some (.int v4), some (.int (hi 10 (Int32.toNatClampNeg ((v1 * (4 : Int32)) + v4))))]) dX8_placeInBank_66 (Nat.le_of_ble_eq_true rfl) rfl rfl ?_
          refine x_iinc (pc' := 70) (v := (v4 + (-1))) (L' := [some (.ref 6), some (.int v1), (xcl d2), some (.int ((hi 7 (Int32.toNatClampNeg (hi 10 (Int32.toNatClampNeg ((v1 * (4 : Int32)) + v4))))) + ((hi 8 (Int32.toNatClampNeg (hi 10 (Int32.toNatClampNeg ((v1 * (4 : Int32)) + v4))))) * v3))), some (.int (v4 + (-1))), some (.int (hi 10 (Int32.toNatClampNeg ((v1 * (4 : Int32)) + v4))))]) dX8_placeInBank_67 rfl rfl (Nat.le_of_ble_eq_true rfl) rfl rfl ?_
          refine x_goto (tgt := 12) dX8_placeInBank_70 (by decide) ?_
          exact ih _ _ _ _ _ _ _ _ _ h
        · refine x_icmp_lt (tgt := 49) (pc' := 45) dX8_placeInBank_42 (by decide) rfl (fun hn => absurd hn g5) (fun _ => ?_)
          refine x_sipush (pc' := 48) (x := (-1000)) dX8_placeInBank_45 (by decide) rfl ?_
          obtain rfl := Option.some.inj h
          exact x_iret dX8_placeInBank_48 rfl rfl (Nat.le_of_ble_eq_true rfl) rfl
def F_X8_placeInBank (v1 : Int32) (v2 : Int32) (hi : Nat → Nat → Int32) (hl : Nat → Nat → Int64) (r : xRr) : Option (Int32 × xSt) := if xok v1 8 = true then F_X8_placeInBank_12 1000000 v1 v2 ((hi 9 (Int32.toNatClampNeg v1)) - (1 : Int32)) hi hl r else none
set_option maxRecDepth 20000 in
set_option maxHeartbeats 2000000 in
theorem r_X8_placeInBank (v1 : Int32) (v2 : Int32) (hi : Nat → Nat → Int32) (hl : Nat → Nat → Int64) (r : xRr) (o : Int32 × xSt) (h : F_X8_placeInBank v1 v2 hi hl r = some o) : xM yX8_placeInBank cX8_placeInBank 6 1 (0, 0, 0) z [.ref 6, .int v1, .int v2] (xhp hi hl r) (xoI o) := by
  refine x_meth2 (C := RX8) (ini := false) (L := [some (.ref 6), some (.int v1), some (.int v2), none, none, none]) rfl (by decide) (fun h9 => by cases h9) (by decide) (Nat.le_of_ble_eq_true rfl) rfl ?_
  refine x_iload_n (pc' := 1) dX8_placeInBank_0 rfl rfl ?_
  refine x_istore_n (pc' := 2) (L' := [some (.ref 6), some (.int v1), some (.int v2), some (.int v2), none, none]) dX8_placeInBank_1 (Nat.le_of_ble_eq_true rfl) rfl rfl ?_
  refine x_aload_n (pc' := 3) dX8_placeInBank_2 rfl rfl ?_
  refine x_getr (pc' := 6) (t := 9) dX8_placeInBank_3 f_X8_18 (by decide) rfl rfl rfl rfl ?_
  refine x_iload_n (pc' := 7) dX8_placeInBank_6 rfl rfl ?_
  refine xg_if h (fun g1 h => ?_)
  refine x_iald (pc' := 8) dX8_placeInBank_7 (by decide) rfl (xok_in g1) rfl ?_
  refine x_iconst (pc' := 9) (x := 1) dX8_placeInBank_8 (by decide) rfl ?_
  refine x_isub (pc' := 10) dX8_placeInBank_9 rfl ?_
  refine x_istore (pc' := 12) (L' := [some (.ref 6), some (.int v1), some (.int v2), some (.int v2), some (.int ((hi 9 (Int32.toNatClampNeg v1)) - (1 : Int32))), none]) dX8_placeInBank_10 (Nat.le_of_ble_eq_true rfl) rfl rfl ?_
  exact r_X8_placeInBank_12 1000000 _ _ _ _ _ _ _ _ _ h
def F_X8_takenUp_63 (K19 : Int32 → Int32 → Int32 → Int32 → Int32 → (Nat → Nat → Int32) → (Nat → Nat → Int64) → xRr → Option (Int32 × xSt)) (v1 : Int32) (v2 : Int32) (v3 : Int32) (v4 : Int32) (v5 : Int32) (s0 : Int32) (hi : Nat → Nat → Int32) (hl : Nat → Nat → Int64) (r : xRr) : Option (Int32 × xSt) := xbP (F_X3_taken v4 s0) (fun w2 => if w2 = 0 then if v3 = 0 then some (((-8) : Int32), hi, hl, r) else K19 v1 v2 v3 s0 (v5 + (1)) hi hl r else some (w2, hi, hl, r))
set_option maxRecDepth 20000 in
set_option maxHeartbeats 2000000 in
theorem r_X8_takenUp_63 (K19 : Int32 → Int32 → Int32 → Int32 → Int32 → (Nat → Nat → Int32) → (Nat → Nat → Int64) → xRr → Option (Int32 × xSt)) (hK19 : ∀ (v1 : Int32) (v2 : Int32) (v3 : Int32) (v4 : Int32) (v5 : Int32) (d6 : Option Value) (d7 : Option Value) (hi : Nat → Nat → Int32) (hl : Nat → Nat → Int64) (r : xRr) (o : Int32 × xSt), K19 v1 v2 v3 v4 v5 hi hl r = some o → xR (RX8, cX8_takenUp, 8, false, 1) (1, 0, 0) z 0 0 19 [some (.ref 6), some (.int v1), some (.int v2), some (.int v3), some (.int v4), some (.int v5), d6, d7] [] (xhp hi hl r) (xoI o)) (v1 : Int32) (v2 : Int32) (v3 : Int32) (v4 : Int32) (v5 : Int32) (s0 : Int32) (d6 : Option Value) (d7 : Option Value) (hi : Nat → Nat → Int32) (hl : Nat → Nat → Int64) (r : xRr) (o : Int32 × xSt) (h : F_X8_takenUp_63 K19 v1 v2 v3 v4 v5 s0 hi hl r = some o) : xR (RX8, cX8_takenUp, 8, false, 1) (1, 0, 0) z 0 0 63 [some (.ref 6), some (.int v1), some (.int v2), some (.int v3), some (.int v4), some (.int v5), d6, d7] [.int s0] (xhp hi hl r) (xoI o) := by
  refine x_istore (pc' := 65) (L' := [some (.ref 6), some (.int v1), some (.int v2), some (.int v3), some (.int v4), some (.int v5), some (.int s0), d7]) dX8_takenUp_63 (Nat.le_of_ble_eq_true rfl) rfl rfl ?_
  refine x_iload (pc' := 67) dX8_takenUp_65 rfl rfl ?_
  refine x_iload (pc' := 69) dX8_takenUp_67 rfl rfl ?_
  refine xg_bP h (fun w2 e1 h => ?_)
  refine x_callS (pc' := 72) (S := []) (As := [.int v4, .int s0]) (b' := (0, 0, 0)) dX8_takenUp_69 l_X8_56 m_X3_taken rfl rfl (Nat.le_of_ble_eq_true rfl) (Nat.le_of_ble_eq_true rfl) (Nat.le_of_ble_eq_true rfl) (Nat.le_of_ble_eq_true rfl) (r_X3_taken _ _ _ _ e1) rfl ?_
  refine x_istore (pc' := 74) (L' := [some (.ref 6), some (.int v1), some (.int v2), some (.int v3), some (.int v4), some (.int v5), some (.int s0), some (.int w2)]) dX8_takenUp_72 (Nat.le_of_ble_eq_true rfl) rfl rfl ?_
  refine x_iload (pc' := 76) dX8_takenUp_74 rfl rfl ?_
  refine xg_ite h (fun g3 h => ?_) (fun g3 h => ?_)
  · refine x_if_eq (tgt := 82) (pc' := 79) dX8_takenUp_76 (by decide) rfl (fun _ => ?_) (fun hn => absurd g3 hn)
    refine x_iload_n (pc' := 83) dX8_takenUp_82 rfl rfl ?_
    refine xg_ite h (fun g4 h => ?_) (fun g4 h => ?_)
    · refine x_if_ne (tgt := 89) (pc' := 86) dX8_takenUp_83 (by decide) rfl (fun hn => absurd g4 hn) (fun _ => ?_)
      refine x_bipush (pc' := 88) (x := (-8)) dX8_takenUp_86 (by decide) rfl ?_
      obtain rfl := Option.some.inj h
      exact x_iret dX8_takenUp_88 rfl rfl (Nat.le_of_ble_eq_true rfl) rfl
    · refine x_if_ne (tgt := 89) (pc' := 86) dX8_takenUp_83 (by decide) rfl (fun _ => ?_) (fun hn => absurd hn g4)
      refine x_iload (pc' := 91) dX8_takenUp_89 rfl rfl ?_
      refine x_istore (pc' := 93) (L' := [some (.ref 6), some (.int v1), some (.int v2), some (.int v3), some (.int s0), some (.int v5), some (.int s0), some (.int w2)]) dX8_takenUp_91 (Nat.le_of_ble_eq_true rfl) rfl rfl ?_
      refine x_iinc (pc' := 96) (v := (v5 + (1))) (L' := [some (.ref 6), some (.int v1), some (.int v2), some (.int v3), some (.int s0), some (.int (v5 + (1))), some (.int s0), some (.int w2)]) dX8_takenUp_93 rfl rfl (Nat.le_of_ble_eq_true rfl) rfl rfl ?_
      refine x_goto (tgt := 19) dX8_takenUp_96 (by decide) ?_
      exact hK19 _ _ _ _ _ _ _ _ _ _ _ h
  · refine x_if_eq (tgt := 82) (pc' := 79) dX8_takenUp_76 (by decide) rfl (fun hn => absurd hn g3) (fun _ => ?_)
    refine x_iload (pc' := 81) dX8_takenUp_79 rfl rfl ?_
    obtain rfl := Option.some.inj h
    exact x_iret dX8_takenUp_81 rfl rfl (Nat.le_of_ble_eq_true rfl) rfl
def F_X8_takenUp_19 : Nat → Int32 → Int32 → Int32 → Int32 → Int32 → (Nat → Nat → Int32) → (Nat → Nat → Int64) → xRr → Option (Int32 × xSt)
  | 0, _, _, _, _, _, _, _, _ => none
  | n + 1, v1, v2, v3, v4, v5, hi, hl, r => if xok v1 8 = true then if (hi 9 (Int32.toNatClampNeg v1)) ≤ v5 then some ((0 : Int32), hi, hl, r) else if v5 = ((hi 9 (Int32.toNatClampNeg v1)) - (1 : Int32)) then F_X8_takenUp_63 (F_X8_takenUp_19 n) v1 v2 v3 v4 v5 v2 hi hl r else if xok ((v1 * (4 : Int32)) + v5) 32 = true then if xok (hi 10 (Int32.toNatClampNeg ((v1 * (4 : Int32)) + v5))) 8 = true then F_X8_takenUp_63 (F_X8_takenUp_19 n) v1 v2 v3 v4 v5 (hi 12 (Int32.toNatClampNeg (hi 10 (Int32.toNatClampNeg ((v1 * (4 : Int32)) + v5))))) hi hl r else none else none else none
set_option maxRecDepth 20000 in
set_option maxHeartbeats 2000000 in
theorem r_X8_takenUp_19 : ∀ (n : Nat) (v1 : Int32) (v2 : Int32) (v3 : Int32) (v4 : Int32) (v5 : Int32) (d6 : Option Value) (d7 : Option Value) (hi : Nat → Nat → Int32) (hl : Nat → Nat → Int64) (r : xRr) (o : Int32 × xSt), F_X8_takenUp_19 n v1 v2 v3 v4 v5 hi hl r = some o → xR (RX8, cX8_takenUp, 8, false, 1) (1, 0, 0) z 0 0 19 [some (.ref 6), some (.int v1), some (.int v2), some (.int v3), some (.int v4), some (.int v5), d6, d7] [] (xhp hi hl r) (xoI o) := by
  intro n
  induction n with
  | zero =>
    intro v1 v2 v3 v4 v5 d6 d7 hi hl r o h
    have h : none = some o := h
    cases h
  | succ n ih =>
    intro v1 v2 v3 v4 v5 d6 d7 hi hl r o h
    refine x_iload (pc' := 21) dX8_takenUp_19 rfl rfl ?_
    refine x_aload_n (pc' := 22) dX8_takenUp_21 rfl rfl ?_
    refine x_getr (pc' := 25) (t := 9) dX8_takenUp_22 f_X8_18 (by decide) rfl rfl rfl rfl ?_
    refine x_iload_n (pc' := 26) dX8_takenUp_25 rfl rfl ?_
    refine xg_if h (fun g1 h => ?_)
    refine x_iald (pc' := 27) dX8_takenUp_26 (by decide) rfl (xok_in g1) rfl ?_
    refine xg_ite h (fun g2 h => ?_) (fun g2 h => ?_)
    · refine x_icmp_ge (tgt := 99) (pc' := 30) dX8_takenUp_27 (by decide) rfl (fun _ => ?_) (fun hn => absurd g2 hn)
      refine x_iconst (pc' := 100) (x := 0) dX8_takenUp_99 (by decide) rfl ?_
      obtain rfl := Option.some.inj h
      exact x_iret dX8_takenUp_100 rfl rfl (Nat.le_of_ble_eq_true rfl) rfl
    · refine x_icmp_ge (tgt := 99) (pc' := 30) dX8_takenUp_27 (by decide) rfl (fun hn => absurd hn g2) (fun _ => ?_)
      refine x_iload (pc' := 32) dX8_takenUp_30 rfl rfl ?_
      refine x_aload_n (pc' := 33) dX8_takenUp_32 rfl rfl ?_
      refine x_getr (pc' := 36) (t := 9) dX8_takenUp_33 f_X8_18 (by decide) rfl rfl rfl rfl ?_
      refine x_iload_n (pc' := 37) dX8_takenUp_36 rfl rfl ?_
      refine x_iald (pc' := 38) dX8_takenUp_37 (by decide) rfl (xok_in g1) rfl ?_
      refine x_iconst (pc' := 39) (x := 1) dX8_takenUp_38 (by decide) rfl ?_
      refine x_isub (pc' := 40) dX8_takenUp_39 rfl ?_
      refine xg_ite h (fun g3 h => ?_) (fun g3 h => ?_)
      · refine x_icmp_ne (tgt := 47) (pc' := 43) dX8_takenUp_40 (by decide) rfl (fun hn => absurd g3 hn) (fun _ => ?_)
        refine x_iload_n (pc' := 44) dX8_takenUp_43 rfl rfl ?_
        refine x_goto (tgt := 63) dX8_takenUp_44 (by decide) ?_
        exact r_X8_takenUp_63 (F_X8_takenUp_19 n) ih _ _ _ _ _ _ _ _ _ _ _ _ h
      · refine x_icmp_ne (tgt := 47) (pc' := 43) dX8_takenUp_40 (by decide) rfl (fun _ => ?_) (fun hn => absurd hn g3)
        refine x_aload_n (pc' := 48) dX8_takenUp_47 rfl rfl ?_
        refine x_getr (pc' := 51) (t := 12) dX8_takenUp_48 f_X8_27 (by decide) rfl rfl rfl rfl ?_
        refine x_aload_n (pc' := 52) dX8_takenUp_51 rfl rfl ?_
        refine x_getr (pc' := 55) (t := 10) dX8_takenUp_52 f_X8_21 (by decide) rfl rfl rfl rfl ?_
        refine x_iload_n (pc' := 56) dX8_takenUp_55 rfl rfl ?_
        refine x_iconst (pc' := 57) (x := 4) dX8_takenUp_56 (by decide) rfl ?_
        refine x_imul (pc' := 58) dX8_takenUp_57 rfl ?_
        refine x_iload (pc' := 60) dX8_takenUp_58 rfl rfl ?_
        refine x_iadd (pc' := 61) dX8_takenUp_60 rfl ?_
        refine xg_if h (fun g4 h => ?_)
        refine x_iald (pc' := 62) dX8_takenUp_61 (by decide) rfl (xok_in g4) rfl ?_
        refine xg_if h (fun g5 h => ?_)
        refine x_iald (pc' := 63) dX8_takenUp_62 (by decide) rfl (xok_in g5) rfl ?_
        exact r_X8_takenUp_63 (F_X8_takenUp_19 n) ih _ _ _ _ _ _ _ _ _ _ _ _ h
def F_X8_takenUp (v1 : Int32) (v2 : Int32) (v3 : Int32) (hi : Nat → Nat → Int32) (hl : Nat → Nat → Int64) (r : xRr) : Option (Int32 × xSt) := if xok v1 8 = true then if xok (hi 13 (Int32.toNatClampNeg v1)) 6 = true then F_X8_takenUp_19 1000000 v1 v2 v3 (hi 2 (Int32.toNatClampNeg (hi 13 (Int32.toNatClampNeg v1)))) (0 : Int32) hi hl r else none else none
set_option maxRecDepth 20000 in
set_option maxHeartbeats 2000000 in
theorem r_X8_takenUp (v1 : Int32) (v2 : Int32) (v3 : Int32) (hi : Nat → Nat → Int32) (hl : Nat → Nat → Int64) (r : xRr) (o : Int32 × xSt) (h : F_X8_takenUp v1 v2 v3 hi hl r = some o) : xM yX8_takenUp cX8_takenUp 8 1 (1, 0, 0) z [.ref 6, .int v1, .int v2, .int v3] (xhp hi hl r) (xoI o) := by
  refine x_meth2 (C := RX8) (ini := false) (L := [some (.ref 6), some (.int v1), some (.int v2), some (.int v3), none, none, none, none]) rfl (by decide) (fun h9 => by cases h9) (by decide) (Nat.le_of_ble_eq_true rfl) rfl ?_
  refine x_aload_n (pc' := 1) dX8_takenUp_0 rfl rfl ?_
  refine x_getr (pc' := 4) (t := 1) dX8_takenUp_1 f_X8_33 (by decide) rfl rfl rfl rfl ?_
  refine x_getr (pc' := 7) (t := 2) dX8_takenUp_4 f_X8_55 (by decide) rfl rfl rfl rfl ?_
  refine x_aload_n (pc' := 8) dX8_takenUp_7 rfl rfl ?_
  refine x_getr (pc' := 11) (t := 13) dX8_takenUp_8 f_X8_30 (by decide) rfl rfl rfl rfl ?_
  refine x_iload_n (pc' := 12) dX8_takenUp_11 rfl rfl ?_
  refine xg_if h (fun g1 h => ?_)
  refine x_iald (pc' := 13) dX8_takenUp_12 (by decide) rfl (xok_in g1) rfl ?_
  refine xg_if h (fun g2 h => ?_)
  refine x_iald (pc' := 14) dX8_takenUp_13 (by decide) rfl (xok_in g2) rfl ?_
  refine x_istore (pc' := 16) (L' := [some (.ref 6), some (.int v1), some (.int v2), some (.int v3), some (.int (hi 2 (Int32.toNatClampNeg (hi 13 (Int32.toNatClampNeg v1))))), none, none, none]) dX8_takenUp_14 (Nat.le_of_ble_eq_true rfl) rfl rfl ?_
  refine x_iconst (pc' := 17) (x := 0) dX8_takenUp_16 (by decide) rfl ?_
  refine x_istore (pc' := 19) (L' := [some (.ref 6), some (.int v1), some (.int v2), some (.int v3), some (.int (hi 2 (Int32.toNatClampNeg (hi 13 (Int32.toNatClampNeg v1))))), some (.int (0 : Int32)), none, none]) dX8_takenUp_17 (Nat.le_of_ble_eq_true rfl) rfl rfl ?_
  exact r_X8_takenUp_19 1000000 _ _ _ _ _ _ _ _ _ _ _ h
def F_X8_readRefusal (v1 : Int32) (v2 : Int32) (hi : Nat → Nat → Int32) (hl : Nat → Nat → Int64) (r : xRr) : Option (Int32 × xSt) := xbI (F_X8_placeInBank v1 v2 hi hl r) (fun w2 hi2 hl2 r2 => if w2 = ((-1000) : Int32) then some (((-4) : Int32), hi2, hl2, r2) else if xok v1 8 = true then xbI (F_X0_hasCell (hi2 13 (Int32.toNatClampNeg v1)) w2 hi2 hl2 r2) (fun w6 hi6 hl6 r6 => xbI (F_X8_takenUp v1 (hi2 12 (Int32.toNatClampNeg v1)) w6 hi6 hl6 r6) (fun w8 hi8 hl8 r8 => some (w8, hi8, hl8, r8))) else none)
set_option maxRecDepth 20000 in
set_option maxHeartbeats 2000000 in
theorem r_X8_readRefusal (v1 : Int32) (v2 : Int32) (hi : Nat → Nat → Int32) (hl : Nat → Nat → Int64) (r : xRr) (o : Int32 × xSt) (h : F_X8_readRefusal v1 v2 hi hl r = some o) : xM yX8_readRefusal cX8_readRefusal 4 1 (2, 0, 0) z [.ref 6, .int v1, .int v2] (xhp hi hl r) (xoI o) := by
  refine x_meth2 (C := RX8) (ini := false) (L := [some (.ref 6), some (.int v1), some (.int v2), none]) rfl (by decide) (fun h9 => by cases h9) (by decide) (Nat.le_of_ble_eq_true rfl) rfl ?_
  refine x_aload_n (pc' := 1) dX8_readRefusal_0 rfl rfl ?_
  refine x_iload_n (pc' := 2) dX8_readRefusal_1 rfl rfl ?_
  refine x_iload_n (pc' := 3) dX8_readRefusal_2 rfl rfl ?_
  refine xg_bI h (fun w2 hi2 hl2 r2 e1 h => ?_)
  refine x_callV (pc' := 6) (S := []) (As := [.int v1, .int v2]) (b' := (0, 0, 0)) dX8_readRefusal_3 l_X8_45 m_X8_placeInBank rfl rfl (show 6 < 122 by decide) rfl (Nat.le_of_ble_eq_true rfl) (Nat.le_of_ble_eq_true rfl) (Nat.le_of_ble_eq_true rfl) (Nat.le_of_ble_eq_true rfl) (r_X8_placeInBank _ _ _ _ _ _ e1) rfl ?_
  refine x_istore_n (pc' := 7) (L' := [some (.ref 6), some (.int v1), some (.int v2), some (.int w2)]) dX8_readRefusal_6 (Nat.le_of_ble_eq_true rfl) rfl rfl ?_
  refine x_iload_n (pc' := 8) dX8_readRefusal_7 rfl rfl ?_
  refine x_sipush (pc' := 11) (x := (-1000)) dX8_readRefusal_8 (by decide) rfl ?_
  refine xg_ite h (fun g3 h => ?_) (fun g3 h => ?_)
  · refine x_icmp_ne (tgt := 19) (pc' := 14) dX8_readRefusal_11 (by decide) rfl (fun hn => absurd g3 hn) (fun _ => ?_)
    refine x_bipush (pc' := 16) (x := (-4)) dX8_readRefusal_14 (by decide) rfl ?_
    refine x_goto (tgt := 44) dX8_readRefusal_16 (by decide) ?_
    obtain rfl := Option.some.inj h
    exact x_iret dX8_readRefusal_44 rfl rfl (Nat.le_of_ble_eq_true rfl) rfl
  · refine x_icmp_ne (tgt := 19) (pc' := 14) dX8_readRefusal_11 (by decide) rfl (fun _ => ?_) (fun hn => absurd hn g3)
    refine x_aload_n (pc' := 20) dX8_readRefusal_19 rfl rfl ?_
    refine x_iload_n (pc' := 21) dX8_readRefusal_20 rfl rfl ?_
    refine x_aload_n (pc' := 22) dX8_readRefusal_21 rfl rfl ?_
    refine x_getr (pc' := 25) (t := 12) dX8_readRefusal_22 f_X8_27 (by decide) rfl rfl rfl rfl ?_
    refine x_iload_n (pc' := 26) dX8_readRefusal_25 rfl rfl ?_
    refine xg_if h (fun g4 h => ?_)
    refine x_iald (pc' := 27) dX8_readRefusal_26 (by decide) rfl (xok_in g4) rfl ?_
    refine x_aload_n (pc' := 28) dX8_readRefusal_27 rfl rfl ?_
    refine x_getr (pc' := 31) (t := 1) dX8_readRefusal_28 f_X8_33 (by decide) rfl rfl rfl rfl ?_
    refine x_aload_n (pc' := 32) dX8_readRefusal_31 rfl rfl ?_
    refine x_getr (pc' := 35) (t := 13) dX8_readRefusal_32 f_X8_30 (by decide) rfl rfl rfl rfl ?_
    refine x_iload_n (pc' := 36) dX8_readRefusal_35 rfl rfl ?_
    refine x_iald (pc' := 37) dX8_readRefusal_36 (by decide) rfl (xok_in g4) rfl ?_
    refine x_iload_n (pc' := 38) dX8_readRefusal_37 rfl rfl ?_
    refine xg_bI h (fun w6 hi6 hl6 r6 e5 h => ?_)
    refine x_callV (pc' := 41) (S := [.int (hi2 12 (Int32.toNatClampNeg v1)), .int v1, .ref 6]) (As := [.int (hi2 13 (Int32.toNatClampNeg v1)), .int w2]) (b' := (0, 0, 0)) dX8_readRefusal_38 l_X8_49 m_X0_hasCell rfl rfl (show 1 < 122 by decide) rfl (Nat.le_of_ble_eq_true rfl) (Nat.le_of_ble_eq_true rfl) (Nat.le_of_ble_eq_true rfl) (Nat.le_of_ble_eq_true rfl) (r_X0_hasCell _ _ _ _ _ _ e5) rfl ?_
    refine xg_bI h (fun w8 hi8 hl8 r8 e7 h => ?_)
    refine x_callV (pc' := 44) (S := []) (As := [.int v1, .int (hi2 12 (Int32.toNatClampNeg v1)), .int w6]) (b' := (1, 0, 0)) dX8_readRefusal_41 l_X8_65 m_X8_takenUp rfl rfl (show 6 < 122 by decide) rfl (Nat.le_of_ble_eq_true rfl) (Nat.le_of_ble_eq_true rfl) (Nat.le_of_ble_eq_true rfl) (Nat.le_of_ble_eq_true rfl) (r_X8_takenUp _ _ _ _ _ _ _ e7) rfl ?_
    obtain rfl := Option.some.inj h
    exact x_iret dX8_readRefusal_44 rfl rfl (Nat.le_of_ble_eq_true rfl) rfl
def F_X8_comeUp_2 : Nat → Int32 → Nat → Int32 → (Nat → Nat → Int32) → (Nat → Nat → Int64) → xRr → Option (xSt)
  | 0, _, _, _, _, _, _ => none
  | n + 1, v1, v2, v3, hi, hl, r => if xok v1 8 = true then if (hi 9 (Int32.toNatClampNeg v1)) ≤ v3 then some (hi, hl, r) else if xok ((v1 * (4 : Int32)) + v3) 32 = true then if xok (hi 10 (Int32.toNatClampNeg ((v1 * (4 : Int32)) + v3))) 8 = true then if xisO v2 5 = true then xbV (F_X6_enter v2 (hi 12 (Int32.toNatClampNeg (hi 10 (Int32.toNatClampNeg ((v1 * (4 : Int32)) + v3))))) hi hl r) (fun hi6 hl6 r6 => (F_X8_comeUp_2 n) v1 v2 (v3 + (1)) hi6 hl6 r6) else none else none else none else none
set_option maxRecDepth 20000 in
set_option maxHeartbeats 2000000 in
theorem r_X8_comeUp_2 : ∀ (n : Nat) (v1 : Int32) (v2 : Nat) (v3 : Int32) (hi : Nat → Nat → Int32) (hl : Nat → Nat → Int64) (r : xRr) (o : xSt), F_X8_comeUp_2 n v1 v2 v3 hi hl r = some o → xR (RX8, cX8_comeUp, 4, false, 0) (3, 0, 0) z 0 0 2 [some (.ref 6), some (.int v1), some (.ref v2), some (.int v3)] [] (xhp hi hl r) (xoV o) := by
  intro n
  induction n with
  | zero =>
    intro v1 v2 v3 hi hl r o h
    have h : none = some o := h
    cases h
  | succ n ih =>
    intro v1 v2 v3 hi hl r o h
    refine x_iload_n (pc' := 3) dX8_comeUp_2 rfl rfl ?_
    refine x_aload_n (pc' := 4) dX8_comeUp_3 rfl rfl ?_
    refine x_getr (pc' := 7) (t := 9) dX8_comeUp_4 f_X8_18 (by decide) rfl rfl rfl rfl ?_
    refine x_iload_n (pc' := 8) dX8_comeUp_7 rfl rfl ?_
    refine xg_if h (fun g1 h => ?_)
    refine x_iald (pc' := 9) dX8_comeUp_8 (by decide) rfl (xok_in g1) rfl ?_
    refine xg_ite h (fun g2 h => ?_) (fun g2 h => ?_)
    · refine x_icmp_ge (tgt := 37) (pc' := 12) dX8_comeUp_9 (by decide) rfl (fun _ => ?_) (fun hn => absurd g2 hn)
      obtain rfl := Option.some.inj h
      exact x_vret dX8_comeUp_37 rfl rfl (Nat.le_of_ble_eq_true rfl) rfl
    · refine x_icmp_ge (tgt := 37) (pc' := 12) dX8_comeUp_9 (by decide) rfl (fun hn => absurd hn g2) (fun _ => ?_)
      refine x_aload_n (pc' := 13) dX8_comeUp_12 rfl rfl ?_
      refine x_aload_n (pc' := 14) dX8_comeUp_13 rfl rfl ?_
      refine x_getr (pc' := 17) (t := 12) dX8_comeUp_14 f_X8_27 (by decide) rfl rfl rfl rfl ?_
      refine x_aload_n (pc' := 18) dX8_comeUp_17 rfl rfl ?_
      refine x_getr (pc' := 21) (t := 10) dX8_comeUp_18 f_X8_21 (by decide) rfl rfl rfl rfl ?_
      refine x_iload_n (pc' := 22) dX8_comeUp_21 rfl rfl ?_
      refine x_iconst (pc' := 23) (x := 4) dX8_comeUp_22 (by decide) rfl ?_
      refine x_imul (pc' := 24) dX8_comeUp_23 rfl ?_
      refine x_iload_n (pc' := 25) dX8_comeUp_24 rfl rfl ?_
      refine x_iadd (pc' := 26) dX8_comeUp_25 rfl ?_
      refine xg_if h (fun g3 h => ?_)
      refine x_iald (pc' := 27) dX8_comeUp_26 (by decide) rfl (xok_in g3) rfl ?_
      refine xg_if h (fun g4 h => ?_)
      refine x_iald (pc' := 28) dX8_comeUp_27 (by decide) rfl (xok_in g4) rfl ?_
      refine xg_if h (fun g7 h => ?_)
      refine xg_bV h (fun hi6 hl6 r6 e5 h => ?_)
      refine x_callV (pc' := 31) (S := []) (As := [.int (hi 12 (Int32.toNatClampNeg (hi 10 (Int32.toNatClampNeg ((v1 * (4 : Int32)) + v3)))))]) (b' := (2, 0, 0)) dX8_comeUp_28 l_X8_72 m_X6_enter rfl rfl (xisO_lt g7) (xisO_sh g7) (Nat.le_of_ble_eq_true rfl) (Nat.le_of_ble_eq_true rfl) (Nat.le_of_ble_eq_true rfl) (Nat.le_of_ble_eq_true rfl) (r_X6_enter _ _ _ _ _ _ e5) rfl ?_
      refine x_iinc (pc' := 34) (v := (v3 + (1))) (L' := [some (.ref 6), some (.int v1), some (.ref v2), some (.int (v3 + (1)))]) dX8_comeUp_31 rfl rfl (Nat.le_of_ble_eq_true rfl) rfl rfl ?_
      refine x_goto (tgt := 2) dX8_comeUp_34 (by decide) ?_
      exact ih _ _ _ _ _ _ _ h
def F_X8_comeUp (v1 : Int32) (v2 : Nat) (hi : Nat → Nat → Int32) (hl : Nat → Nat → Int64) (r : xRr) : Option (xSt) := F_X8_comeUp_2 1000000 v1 v2 (0 : Int32) hi hl r
set_option maxRecDepth 20000 in
set_option maxHeartbeats 2000000 in
theorem r_X8_comeUp (v1 : Int32) (v2 : Nat) (hi : Nat → Nat → Int32) (hl : Nat → Nat → Int64) (r : xRr) (o : xSt) (h : F_X8_comeUp v1 v2 hi hl r = some o) : xM yX8_comeUp cX8_comeUp 4 0 (3, 0, 0) z [.ref 6, .int v1, .ref v2] (xhp hi hl r) (xoV o) := by
  refine x_meth2 (C := RX8) (ini := false) (L := [some (.ref 6), some (.int v1), some (.ref v2), none]) rfl (by decide) (fun h9 => by cases h9) (by decide) (Nat.le_of_ble_eq_true rfl) rfl ?_
  refine x_iconst (pc' := 1) (x := 0) dX8_comeUp_0 (by decide) rfl ?_
  refine x_istore_n (pc' := 2) (L' := [some (.ref 6), some (.int v1), some (.ref v2), some (.int (0 : Int32))]) dX8_comeUp_1 (Nat.le_of_ble_eq_true rfl) rfl rfl ?_
  exact r_X8_comeUp_2 1000000 _ _ _ _ _ _ _ h
def F_X5_take (v1 : Int32) (v2 : Int32) (v3 : Nat) (hi : Nat → Nat → Int32) (hl : Nat → Nat → Int64) (r : xRr) : Option (Int32 × xSt) := xbI (F_X8_readRefusal v1 v2 hi hl r) (fun w2 hi2 hl2 r2 => if w2 = 0 then if xok v1 8 = true then xbI (F_X8_placeInBank v1 v2 hi2 hl2 r2) (fun w6 hi6 hl6 r6 => xbV (F_X0_fetch (hi2 13 (Int32.toNatClampNeg v1)) w6 v3 hi6 hl6 r6) (fun hi8 hl8 r8 => xbV (F_X8_comeUp v1 v3 hi8 hl8 r8) (fun hi10 hl10 r10 => some (w2, hi10, hl10, r10)))) else none else some (w2, hi2, hl2, r2))
set_option maxRecDepth 20000 in
set_option maxHeartbeats 2000000 in
theorem r_X5_take (v1 : Int32) (v2 : Int32) (v3 : Nat) (hi : Nat → Nat → Int32) (hl : Nat → Nat → Int64) (r : xRr) (o : Int32 × xSt) (h : F_X5_take v1 v2 v3 hi hl r = some o) : xM yX5_take cX5_take 5 1 (4, 0, 0) z [.ref 14, .int v1, .int v2, .ref v3] (xhp hi hl r) (xoI o) := by
  refine x_meth2 (C := RX5) (ini := false) (L := [some (.ref 14), some (.int v1), some (.int v2), some (.ref v3), none]) rfl (by decide) (fun h9 => by cases h9) (by decide) (Nat.le_of_ble_eq_true rfl) rfl ?_
  refine x_aload_n (pc' := 1) dX5_take_0 rfl rfl ?_
  refine x_getr (pc' := 4) (t := 6) dX5_take_1 f_X5_29 (by decide) rfl rfl rfl rfl ?_
  refine x_iload_n (pc' := 5) dX5_take_4 rfl rfl ?_
  refine x_iload_n (pc' := 6) dX5_take_5 rfl rfl ?_
  refine xg_bI h (fun w2 hi2 hl2 r2 e1 h => ?_)
  refine x_callV (pc' := 9) (S := []) (As := [.int v1, .int v2]) (b' := (2, 0, 0)) dX5_take_6 l_X5_33 m_X8_readRefusal rfl rfl (show 6 < 122 by decide) rfl (Nat.le_of_ble_eq_true rfl) (Nat.le_of_ble_eq_true rfl) (Nat.le_of_ble_eq_true rfl) (Nat.le_of_ble_eq_true rfl) (r_X8_readRefusal _ _ _ _ _ _ e1) rfl ?_
  refine x_istore (pc' := 11) (L' := [some (.ref 14), some (.int v1), some (.int v2), some (.ref v3), some (.int w2)]) dX5_take_9 (Nat.le_of_ble_eq_true rfl) rfl rfl ?_
  refine x_iload (pc' := 13) dX5_take_11 rfl rfl ?_
  refine xg_ite h (fun g3 h => ?_) (fun g3 h => ?_)
  · refine x_if_ne (tgt := 51) (pc' := 16) dX5_take_13 (by decide) rfl (fun hn => absurd g3 hn) (fun _ => ?_)
    refine x_aload_n (pc' := 17) dX5_take_16 rfl rfl ?_
    refine x_getr (pc' := 20) (t := 1) dX5_take_17 f_X5_25 (by decide) rfl rfl rfl rfl ?_
    refine x_aload_n (pc' := 21) dX5_take_20 rfl rfl ?_
    refine x_getr (pc' := 24) (t := 6) dX5_take_21 f_X5_29 (by decide) rfl rfl rfl rfl ?_
    refine x_getr (pc' := 27) (t := 13) dX5_take_24 f_X5_39 (by decide) rfl rfl rfl rfl ?_
    refine x_iload_n (pc' := 28) dX5_take_27 rfl rfl ?_
    refine xg_if h (fun g4 h => ?_)
    refine x_iald (pc' := 29) dX5_take_28 (by decide) rfl (xok_in g4) rfl ?_
    refine x_aload_n (pc' := 30) dX5_take_29 rfl rfl ?_
    refine x_getr (pc' := 33) (t := 6) dX5_take_30 f_X5_29 (by decide) rfl rfl rfl rfl ?_
    refine x_iload_n (pc' := 34) dX5_take_33 rfl rfl ?_
    refine x_iload_n (pc' := 35) dX5_take_34 rfl rfl ?_
    refine xg_bI h (fun w6 hi6 hl6 r6 e5 h => ?_)
    refine x_callV (pc' := 38) (S := [.int (hi2 13 (Int32.toNatClampNeg v1)), .ref 1]) (As := [.int v1, .int v2]) (b' := (0, 0, 0)) dX5_take_35 l_X5_43 m_X8_placeInBank rfl rfl (show 6 < 122 by decide) rfl (Nat.le_of_ble_eq_true rfl) (Nat.le_of_ble_eq_true rfl) (Nat.le_of_ble_eq_true rfl) (Nat.le_of_ble_eq_true rfl) (r_X8_placeInBank _ _ _ _ _ _ e5) rfl ?_
    refine x_aload_n (pc' := 39) dX5_take_38 rfl rfl ?_
    refine xg_bV h (fun hi8 hl8 r8 e7 h => ?_)
    refine x_callV (pc' := 42) (S := []) (As := [.int (hi2 13 (Int32.toNatClampNeg v1)), .int w6, .ref v3]) (b' := (3, 0, 0)) dX5_take_39 l_X5_46 m_X0_fetch rfl rfl (show 1 < 122 by decide) rfl (Nat.le_of_ble_eq_true rfl) (Nat.le_of_ble_eq_true rfl) (Nat.le_of_ble_eq_true rfl) (Nat.le_of_ble_eq_true rfl) (r_X0_fetch _ _ _ _ _ _ _ e7) rfl ?_
    refine x_aload_n (pc' := 43) dX5_take_42 rfl rfl ?_
    refine x_getr (pc' := 46) (t := 6) dX5_take_43 f_X5_29 (by decide) rfl rfl rfl rfl ?_
    refine x_iload_n (pc' := 47) dX5_take_46 rfl rfl ?_
    refine x_aload_n (pc' := 48) dX5_take_47 rfl rfl ?_
    refine xg_bV h (fun hi10 hl10 r10 e9 h => ?_)
    refine x_callV (pc' := 51) (S := []) (As := [.int v1, .ref v3]) (b' := (3, 0, 0)) dX5_take_48 l_X5_52 m_X8_comeUp rfl rfl (show 6 < 122 by decide) rfl (Nat.le_of_ble_eq_true rfl) (Nat.le_of_ble_eq_true rfl) (Nat.le_of_ble_eq_true rfl) (Nat.le_of_ble_eq_true rfl) (r_X8_comeUp _ _ _ _ _ _ e9) rfl ?_
    refine x_iload (pc' := 53) dX5_take_51 rfl rfl ?_
    obtain rfl := Option.some.inj h
    exact x_iret dX5_take_53 rfl rfl (Nat.le_of_ble_eq_true rfl) rfl
  · refine x_if_ne (tgt := 51) (pc' := 16) dX5_take_13 (by decide) rfl (fun _ => ?_) (fun hn => absurd hn g3)
    refine x_iload (pc' := 53) dX5_take_51 rfl rfl ?_
    obtain rfl := Option.some.inj h
    exact x_iret dX5_take_53 rfl rfl (Nat.le_of_ble_eq_true rfl) rfl
end
