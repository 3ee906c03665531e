section
variable {z : xZ}
def F_X7_firstTry (hi : Nat → Nat → Int32) (hl : Nat → Nat → Int64) (r : xRr) : Option (Int32 × xSt) := xbI (F_X7_leastTries hi hl r) (fun w2 hi2 hl2 r2 => if w2 = 0 then some (((-20) : Int32), hi2, hl2, r2) else xbI (F_X7_beginning (F_X7_sorts 14) 84 (hi2 83 1) w2 hi2 hl2 r2) (fun w5 hi5 hl5 r5 => some (w5, hi5, hl5, r5)))
set_option maxRecDepth 20000 in
set_option maxHeartbeats 2000000 in
theorem r_X7_firstTry (hi : Nat → Nat → Int32) (hl : Nat → Nat → Int64) (r : xRr) (o : Int32 × xSt) (h : F_X7_firstTry hi hl r = some o) : xM yX7_firstTry cX7_firstTry 2 1 (32, 0, 0) z [.ref 83] (xhp hi hl r) (xoI o) := by
  refine x_meth2 (C := RX7) (ini := false) (L := [some (.ref 83), none]) rfl (by decide) (fun h9 => by cases h9) (by decide) (Nat.le_of_ble_eq_true rfl) rfl ?_
  refine x_aload_n (pc' := 1) dX7_firstTry_0 rfl rfl ?_
  refine xg_bI h (fun w2 hi2 hl2 r2 e1 h => ?_)
  refine x_callV (pc' := 4) (S := []) (As := []) (b' := (31, 0, 0)) dX7_firstTry_1 l_X7_42 m_X7_leastTries rfl rfl (show 83 < 122 by decide) rfl (Nat.le_of_ble_eq_true rfl) (Nat.le_of_ble_eq_true rfl) (Nat.le_of_ble_eq_true rfl) (Nat.le_of_ble_eq_true rfl) (r_X7_leastTries _ _ _ _ e1) rfl ?_
  refine x_istore_n (pc' := 5) (L' := [some (.ref 83), some (.int w2)]) dX7_firstTry_4 (Nat.le_of_ble_eq_true rfl) rfl rfl ?_
  refine x_iload_n (pc' := 6) dX7_firstTry_5 rfl rfl ?_
  refine xg_ite h (fun g3 h => ?_) (fun g3 h => ?_)
  · refine x_if_ne (tgt := 14) (pc' := 9) dX7_firstTry_6 (by decide) rfl (fun hn => absurd g3 hn) (fun _ => ?_)
    refine x_bipush (pc' := 11) (x := (-20)) dX7_firstTry_9 (by decide) rfl ?_
    refine x_goto (tgt := 26) dX7_firstTry_11 (by decide) ?_
    obtain rfl := Option.some.inj h
    exact x_iret dX7_firstTry_26 rfl rfl (Nat.le_of_ble_eq_true rfl) rfl
  · refine x_if_ne (tgt := 14) (pc' := 9) dX7_firstTry_6 (by decide) rfl (fun _ => ?_) (fun hn => absurd hn g3)
    refine x_aload_n (pc' := 15) dX7_firstTry_14 rfl rfl ?_
    refine x_getr (pc' := 18) (t := 84) dX7_firstTry_15 f_X7_11 (by decide) rfl rfl rfl rfl ?_
    refine x_aload_n (pc' := 19) dX7_firstTry_18 rfl rfl ?_
    refine x_geti (pc' := 22) dX7_firstTry_19 f_X7_15 (by decide) rfl rfl rfl ?_
    refine x_iload_n (pc' := 23) dX7_firstTry_22 rfl rfl ?_
    refine xg_bI h (fun w5 hi5 hl5 r5 e4 h => ?_)
    refine x_callS (pc' := 26) (S := []) (As := [.ref 84, .int (hi2 83 1), .int w2]) (b' := (31, 0, 0)) dX7_firstTry_23 l_X7_46 m_X7_beginning rfl rfl (Nat.le_of_ble_eq_true rfl) (Nat.le_of_ble_eq_true rfl) (Nat.le_of_ble_eq_true rfl) (Nat.le_of_ble_eq_true rfl) (r_X7_beginning (F_X7_sorts 14) 30 (r_X7_sorts 14) _ _ _ _ _ _ _ e4) rfl ?_
    obtain rfl := Option.some.inj h
    exact x_iret dX7_firstTry_26 rfl rfl (Nat.le_of_ble_eq_true rfl) rfl
def F_X8_has (v1 : Int32) (hi : Nat → Nat → Int32) (hl : Nat → Nat → Int64) (r : xRr) : Option (Int32 × xSt) := if v1 < 0 then some ((0 : Int32), hi, hl, r) else if (hi 6 8) ≤ v1 then some ((0 : Int32), hi, hl, r) else some ((1 : Int32), hi, hl, r)
set_option maxRecDepth 20000 in
set_option maxHeartbeats 2000000 in
theorem r_X8_has (v1 : Int32) (hi : Nat → Nat → Int32) (hl : Nat → Nat → Int64) (r : xRr) (o : Int32 × xSt) (h : F_X8_has v1 hi hl r = some o) : xM yX8_has cX8_has 2 3 (0, 0, 0) z [.ref 6, .int v1] (xhp hi hl r) (xoI o) := by
  refine x_meth2 (C := RX8) (ini := false) (L := [some (.ref 6), some (.int v1)]) rfl (by decide) (fun h9 => by cases h9) (by decide) (Nat.le_of_ble_eq_true rfl) rfl ?_
  refine x_iload_n (pc' := 1) dX8_has_0 rfl rfl ?_
  refine xg_ite h (fun g1 h => ?_) (fun g1 h => ?_)
  · refine x_if_lt (tgt := 16) (pc' := 4) dX8_has_1 (by decide) rfl (fun _ => ?_) (fun hn => absurd g1 hn)
    refine x_iconst (pc' := 17) (x := 0) dX8_has_16 (by decide) rfl ?_
    obtain rfl := Option.some.inj h
    exact x_zret dX8_has_17 rfl (Or.inl rfl) rfl (Nat.le_of_ble_eq_true rfl) rfl
  · refine x_if_lt (tgt := 16) (pc' := 4) dX8_has_1 (by decide) rfl (fun hn => absurd hn g1) (fun _ => ?_)
    refine x_iload_n (pc' := 5) dX8_has_4 rfl rfl ?_
    refine x_aload_n (pc' := 6) dX8_has_5 rfl rfl ?_
    refine x_geti (pc' := 9) dX8_has_6 f_X8_37 (by decide) rfl rfl rfl ?_
    refine xg_ite h (fun g2 h => ?_) (fun g2 h => ?_)
    · refine x_icmp_ge (tgt := 16) (pc' := 12) dX8_has_9 (by decide) rfl (fun _ => ?_) (fun hn => absurd g2 hn)
      refine x_iconst (pc' := 17) (x := 0) dX8_has_16 (by decide) rfl ?_
      obtain rfl := Option.some.inj h
      exact x_zret dX8_has_17 rfl (Or.inl rfl) rfl (Nat.le_of_ble_eq_true rfl) rfl
    · refine x_icmp_ge (tgt := 16) (pc' := 12) dX8_has_9 (by decide) rfl (fun hn => absurd hn g2) (fun _ => ?_)
      refine x_iconst (pc' := 13) (x := 1) dX8_has_12 (by decide) rfl ?_
      refine x_goto (tgt := 17) dX8_has_13 (by decide) ?_
      obtain rfl := Option.some.inj h
      exact x_zret dX8_has_17 rfl (Or.inr rfl) rfl (Nat.le_of_ble_eq_true rfl) rfl
def F_X8_depthUpon (v1 : Int32) (hi : Nat → Nat → Int32) (hl : Nat → Nat → Int64) (r : xRr) : Option (Int32 × xSt) := if (10 : Int32) ≤ v1 then if xok (v1 - (10 : Int32)) 8 = true then some (((hi 9 (Int32.toNatClampNeg (v1 - (10 : Int32)))) + (1 : Int32)), hi, hl, r) else none else some ((1 : Int32), hi, hl, r)
set_option maxRecDepth 20000 in
set_option maxHeartbeats 2000000 in
theorem r_X8_depthUpon (v1 : Int32) (hi : Nat → Nat → Int32) (hl : Nat → Nat → Int64) (r : xRr) (o : Int32 × xSt) (h : F_X8_depthUpon v1 hi hl r = some o) : xM yX8_depthUpon cX8_depthUpon 2 1 (0, 0, 0) z [.ref 6, .int v1] (xhp hi hl r) (xoI o) := by
  refine x_meth2 (C := RX8) (ini := false) (L := [some (.ref 6), some (.int v1)]) rfl (by decide) (fun h9 => by cases h9) (by decide) (Nat.le_of_ble_eq_true rfl) rfl ?_
  refine x_iload_n (pc' := 1) dX8_depthUpon_0 rfl rfl ?_
  refine x_bipush (pc' := 3) (x := 10) dX8_depthUpon_1 (by decide) rfl ?_
  refine xg_ite h (fun g1 h => ?_) (fun g1 h => ?_)
  · refine x_icmp_ge (tgt := 10) (pc' := 6) dX8_depthUpon_3 (by decide) rfl (fun _ => ?_) (fun hn => absurd g1 hn)
    refine x_aload_n (pc' := 11) dX8_depthUpon_10 rfl rfl ?_
    refine x_getr (pc' := 14) (t := 9) dX8_depthUpon_11 f_X8_18 (by decide) rfl rfl rfl rfl ?_
    refine x_iload_n (pc' := 15) dX8_depthUpon_14 rfl rfl ?_
    refine x_bipush (pc' := 17) (x := 10) dX8_depthUpon_15 (by decide) rfl ?_
    refine x_isub (pc' := 18) dX8_depthUpon_17 rfl ?_
    refine xg_if h (fun g2 h => ?_)
    refine x_iald (pc' := 19) dX8_depthUpon_18 (by decide) rfl (xok_in g2) rfl ?_
    refine x_iconst (pc' := 20) (x := 1) dX8_depthUpon_19 (by decide) rfl ?_
    refine x_iadd (pc' := 21) dX8_depthUpon_20 rfl ?_
    obtain rfl := Option.some.inj h
    exact x_iret dX8_depthUpon_21 rfl rfl (Nat.le_of_ble_eq_true rfl) rfl
  · refine x_icmp_ge (tgt := 10) (pc' := 6) dX8_depthUpon_3 (by decide) rfl (fun hn => absurd hn g1) (fun _ => ?_)
    refine x_iconst (pc' := 7) (x := 1) dX8_depthUpon_6 (by decide) rfl ?_
    refine x_goto (tgt := 21) dX8_depthUpon_7 (by decide) ?_
    obtain rfl := Option.some.inj h
    exact x_iret dX8_depthUpon_21 rfl rfl (Nat.le_of_ble_eq_true rfl) rfl
def F_X8_addView_100 (v2 : Int32) (v3 : Int32) (v4 : Int32) (v5 : Int32) (v6 : Int32) (v7 : Int32) (s1 : Int32) (s2 : Int32) (hi : Nat → Nat → Int32) (hl : Nat → Nat → Int64) (r : xRr) : Option (Int32 × xSt) := if xok s1 8 = true then if xok v6 8 = true then some (v6, (xu (xu (xu (xu (xu (xu (xu hi 13 (Int32.toNatClampNeg s1) s2) 9 (Int32.toNatClampNeg v6) v7) 7 (Int32.toNatClampNeg v6) v2) 8 (Int32.toNatClampNeg v6) v3) 11 (Int32.toNatClampNeg v6) v4) 12 (Int32.toNatClampNeg v6) v5) 6 8 (v6 + (1 : Int32))), hl, r) else none else none
set_option maxRecDepth 20000 in
set_option maxHeartbeats 2000000 in
theorem r_X8_addView_100 (v2 : Int32) (v3 : Int32) (v4 : Int32) (v5 : Int32) (v6 : Int32) (v7 : Int32) (s1 : Int32) (s2 : Int32) (d1 : Option Value) (d8 : Option Value) (d9 : Option Value) (hi : Nat → Nat → Int32) (hl : Nat → Nat → Int64) (r : xRr) (o : Int32 × xSt) (h : F_X8_addView_100 v2 v3 v4 v5 v6 v7 s1 s2 hi hl r = some o) : xR (RX8, cX8_addView, 10, false, 1) (1, 0, 0) z 0 0 100 [some (.ref 6), d1, some (.int v2), some (.int v3), some (.int v4), some (.int v5), some (.int v6), some (.int v7), d8, d9] [.int s2, .int s1, .ref 13] (xhp hi hl r) (xoI o) := by
  refine xg_if h (fun g1 h => ?_)
  refine x_iast (pc' := 101) dX8_addView_100 (by decide) rfl (xok_in g1) rfl ?_
  refine x_aload_n (pc' := 102) dX8_addView_101 rfl rfl ?_
  refine x_getr (pc' := 105) (t := 9) dX8_addView_102 f_X8_18 (by decide) rfl rfl rfl rfl ?_
  refine x_iload (pc' := 107) dX8_addView_105 rfl rfl ?_
  refine x_iload (pc' := 109) dX8_addView_107 rfl rfl ?_
  refine xg_if h (fun g2 h => ?_)
  refine x_iast (pc' := 110) dX8_addView_109 (by decide) rfl (xok_in g2) rfl ?_
  refine x_aload_n (pc' := 111) dX8_addView_110 rfl rfl ?_
  refine x_getr (pc' := 114) (t := 7) dX8_addView_111 f_X8_9 (by decide) rfl rfl rfl rfl ?_
  refine x_iload (pc' := 116) dX8_addView_114 rfl rfl ?_
  refine x_iload_n (pc' := 117) dX8_addView_116 rfl rfl ?_
  refine x_iast (pc' := 118) dX8_addView_117 (by decide) rfl (xok_in g2) rfl ?_
  refine x_aload_n (pc' := 119) dX8_addView_118 rfl rfl ?_
  refine x_getr (pc' := 122) (t := 8) dX8_addView_119 f_X8_15 (by decide) rfl rfl rfl rfl ?_
  refine x_iload (pc' := 124) dX8_addView_122 rfl rfl ?_
  refine x_iload_n (pc' := 125) dX8_addView_124 rfl rfl ?_
  refine x_iast (pc' := 126) dX8_addView_125 (by decide) rfl (xok_in g2) rfl ?_
  refine x_aload_n (pc' := 127) dX8_addView_126 rfl rfl ?_
  refine x_getr (pc' := 130) (t := 11) dX8_addView_127 f_X8_24 (by decide) rfl rfl rfl rfl ?_
  refine x_iload (pc' := 132) dX8_addView_130 rfl rfl ?_
  refine x_iload (pc' := 134) dX8_addView_132 rfl rfl ?_
  refine x_iast (pc' := 135) dX8_addView_134 (by decide) rfl (xok_in g2) rfl ?_
  refine x_aload_n (pc' := 136) dX8_addView_135 rfl rfl ?_
  refine x_getr (pc' := 139) (t := 12) dX8_addView_136 f_X8_27 (by decide) rfl rfl rfl rfl ?_
  refine x_iload (pc' := 141) dX8_addView_139 rfl rfl ?_
  refine x_iload (pc' := 143) dX8_addView_141 rfl rfl ?_
  refine x_iast (pc' := 144) dX8_addView_143 (by decide) rfl (xok_in g2) rfl ?_
  refine x_aload_n (pc' := 145) dX8_addView_144 rfl rfl ?_
  refine x_iload (pc' := 147) dX8_addView_145 rfl rfl ?_
  refine x_iconst (pc' := 148) (x := 1) dX8_addView_147 (by decide) rfl ?_
  refine x_iadd (pc' := 149) dX8_addView_148 rfl ?_
  refine x_puti (pc' := 152) dX8_addView_149 f_X8_37 (Or.inl rfl) (by decide) rfl rfl rfl ?_
  refine x_iload (pc' := 154) dX8_addView_152 rfl rfl ?_
  obtain rfl := Option.some.inj h
  exact x_iret dX8_addView_154 rfl rfl (Nat.le_of_ble_eq_true rfl) rfl
def F_X8_addView_22 : Nat → Int32 → Int32 → Int32 → Int32 → Int32 → Int32 → Int32 → Int32 → Int32 → (Nat → Nat → Int32) → (Nat → Nat → Int64) → xRr → Option (Int32 × xSt)
  | 0, _, _, _, _, _, _, _, _, _, _, _, _ => none
  | n + 1, v1, v2, v3, v4, v5, v6, v7, v8, v9, hi, hl, r => if (v7 - (1 : Int32)) ≤ v9 then if xok (((v6 * (4 : Int32)) + v7) - (1 : Int32)) 32 = true then if v7 = (1 : Int32) then F_X8_addView_100 v2 v3 v4 v5 v6 v7 v6 v1 (xu hi 10 (Int32.toNatClampNeg (((v6 * (4 : Int32)) + v7) - (1 : Int32))) v6) hl r else if xok v8 8 = true then F_X8_addView_100 v2 v3 v4 v5 v6 v7 v6 ((xu hi 10 (Int32.toNatClampNeg (((v6 * (4 : Int32)) + v7) - (1 : Int32))) v6) 13 (Int32.toNatClampNeg v8)) (xu hi 10 (Int32.toNatClampNeg (((v6 * (4 : Int32)) + v7) - (1 : Int32))) v6) hl r else none else none else if xok ((v8 * (4 : Int32)) + v9) 32 = true then if xok ((v6 * (4 : Int32)) + v9) 32 = true then (F_X8_addView_22 n) v1 v2 v3 v4 v5 v6 v7 v8 (v9 + (1)) (xu hi 10 (Int32.toNatClampNeg ((v6 * (4 : Int32)) + v9)) (hi 10 (Int32.toNatClampNeg ((v8 * (4 : Int32)) + v9)))) hl r else none else none
set_option maxRecDepth 20000 in
set_option maxHeartbeats 2000000 in
theorem r_X8_addView_22 : ∀ (n : Nat) (v1 : Int32) (v2 : Int32) (v3 : Int32) (v4 : Int32) (v5 : Int32) (v6 : Int32) (v7 : Int32) (v8 : Int32) (v9 : Int32) (hi : Nat → Nat → Int32) (hl : Nat → Nat → Int64) (r : xRr) (o : Int32 × xSt), F_X8_addView_22 n v1 v2 v3 v4 v5 v6 v7 v8 v9 hi hl r = some o → xR (RX8, cX8_addView, 10, false, 1) (1, 0, 0) z 0 0 22 [some (.ref 6), some (.int v1), some (.int v2), some (.int v3), some (.int v4), some (.int v5), some (.int v6), some (.int v7), some (.int v8), some (.int v9)] [] (xhp hi hl r) (xoI o) := by
  intro n
  induction n with
  | zero =>
    intro v1 v2 v3 v4 v5 v6 v7 v8 v9 hi hl r o h
    have h : none = some o := h
    cases h
  | succ n ih =>
    intro v1 v2 v3 v4 v5 v6 v7 v8 v9 hi hl r o h
    refine x_iload (pc' := 24) dX8_addView_22 rfl rfl ?_
    refine x_iload (pc' := 26) dX8_addView_24 rfl rfl ?_
    refine x_iconst (pc' := 27) (x := 1) dX8_addView_26 (by decide) rfl ?_
    refine x_isub (pc' := 28) dX8_addView_27 rfl ?_
    refine xg_ite h (fun g1 h => ?_) (fun g1 h => ?_)
    · refine x_icmp_ge (tgt := 61) (pc' := 31) dX8_addView_28 (by decide) rfl (fun _ => ?_) (fun hn => absurd g1 hn)
      refine x_aload_n (pc' := 62) dX8_addView_61 rfl rfl ?_
      refine x_getr (pc' := 65) (t := 10) dX8_addView_62 f_X8_21 (by decide) rfl rfl rfl rfl ?_
      refine x_iload (pc' := 67) dX8_addView_65 rfl rfl ?_
      refine x_iconst (pc' := 68) (x := 4) dX8_addView_67 (by decide) rfl ?_
      refine x_imul (pc' := 69) dX8_addView_68 rfl ?_
      refine x_iload (pc' := 71) dX8_addView_69 rfl rfl ?_
      refine x_iadd (pc' := 72) dX8_addView_71 rfl ?_
      refine x_iconst (pc' := 73) (x := 1) dX8_addView_72 (by decide) rfl ?_
      refine x_isub (pc' := 74) dX8_addView_73 rfl ?_
      refine x_iload (pc' := 76) dX8_addView_74 rfl rfl ?_
      refine xg_if h (fun g2 h => ?_)
      refine x_iast (pc' := 77) dX8_addView_76 (by decide) rfl (xok_in g2) rfl ?_
      refine x_aload_n (pc' := 78) dX8_addView_77 rfl rfl ?_
      refine x_getr (pc' := 81) (t := 13) dX8_addView_78 f_X8_30 (by decide) rfl rfl rfl rfl ?_
      refine x_iload (pc' := 83) dX8_addView_81 rfl rfl ?_
      refine x_iload (pc' := 85) dX8_addView_83 rfl rfl ?_
      refine x_iconst (pc' := 86) (x := 1) dX8_addView_85 (by decide) rfl ?_
      refine xg_ite h (fun g3 h => ?_) (fun g3 h => ?_)
      · refine x_icmp_ne (tgt := 93) (pc' := 89) dX8_addView_86 (by decide) rfl (fun hn => absurd g3 hn) (fun _ => ?_)
        refine x_iload_n (pc' := 90) dX8_addView_89 rfl rfl ?_
        refine x_goto (tgt := 100) dX8_addView_90 (by decide) ?_
        exact r_X8_addView_100 _ _ _ _ _ _ _ _ _ _ _ _ _ _ _ h
      · refine x_icmp_ne (tgt := 93) (pc' := 89) dX8_addView_86 (by decide) rfl (fun _ => ?_) (fun hn => absurd hn g3)
        refine x_aload_n (pc' := 94) dX8_addView_93 rfl rfl ?_
        refine x_getr (pc' := 97) (t := 13) dX8_addView_94 f_X8_30 (by decide) rfl rfl rfl rfl ?_
        refine x_iload (pc' := 99) dX8_addView_97 rfl rfl ?_
        refine xg_if h (fun g4 h => ?_)
        refine x_iald (pc' := 100) dX8_addView_99 (by decide) rfl (xok_in g4) rfl ?_
        exact r_X8_addView_100 _ _ _ _ _ _ _ _ _ _ _ _ _ _ _ h
    · refine x_icmp_ge (tgt := 61) (pc' := 31) dX8_addView_28 (by decide) rfl (fun hn => absurd hn g1) (fun _ => ?_)
      refine x_aload_n (pc' := 32) dX8_addView_31 rfl rfl ?_
      refine x_getr (pc' := 35) (t := 10) dX8_addView_32 f_X8_21 (by decide) rfl rfl rfl rfl ?_
      refine x_iload (pc' := 37) dX8_addView_35 rfl rfl ?_
      refine x_iconst (pc' := 38) (x := 4) dX8_addView_37 (by decide) rfl ?_
      refine x_imul (pc' := 39) dX8_addView_38 rfl ?_
      refine x_iload (pc' := 41) dX8_addView_39 rfl rfl ?_
      refine x_iadd (pc' := 42) dX8_addView_41 rfl ?_
      refine x_aload_n (pc' := 43) dX8_addView_42 rfl rfl ?_
      refine x_getr (pc' := 46) (t := 10) dX8_addView_43 f_X8_21 (by decide) rfl rfl rfl rfl ?_
      refine x_iload (pc' := 48) dX8_addView_46 rfl rfl ?_
      refine x_iconst (pc' := 49) (x := 4) dX8_addView_48 (by decide) rfl ?_
      refine x_imul (pc' := 50) dX8_addView_49 rfl ?_
      refine x_iload (pc' := 52) dX8_addView_50 rfl rfl ?_
      refine x_iadd (pc' := 53) dX8_addView_52 rfl ?_
      refine xg_if h (fun g5 h => ?_)
      refine x_iald (pc' := 54) dX8_addView_53 (by decide) rfl (xok_in g5) rfl ?_
      refine xg_if h (fun g6 h => ?_)
      refine x_iast (pc' := 55) dX8_addView_54 (by decide) rfl (xok_in g6) rfl ?_
      refine x_iinc (pc' := 58) (v := (v9 + (1))) (L' := [some (.ref 6), some (.int v1), some (.int v2), some (.int v3), some (.int v4), some (.int v5), some (.int v6), some (.int v7), some (.int v8), some (.int (v9 + (1)))]) dX8_addView_55 rfl rfl (Nat.le_of_ble_eq_true rfl) rfl rfl ?_
      refine x_goto (tgt := 22) dX8_addView_58 (by decide) ?_
      exact ih _ _ _ _ _ _ _ _ _ _ _ _ _ h
def F_X8_addView (v1 : Int32) (v2 : Int32) (v3 : Int32) (v4 : Int32) (v5 : Int32) (hi : Nat → Nat → Int32) (hl : Nat → Nat → Int64) (r : xRr) : Option (Int32 × xSt) := xbI (F_X8_depthUpon v1 hi hl r) (fun w2 hi2 hl2 r2 => F_X8_addView_22 1000000 v1 v2 v3 v4 v5 (hi 6 8) w2 (v1 - (10 : Int32)) (0 : Int32) hi2 hl2 r2)
set_option maxRecDepth 20000 in
set_option maxHeartbeats 2000000 in
theorem r_X8_addView (v1 : Int32) (v2 : Int32) (v3 : Int32) (v4 : Int32) (v5 : Int32) (hi : Nat → Nat → Int32) (hl : Nat → Nat → Int64) (r : xRr) (o : Int32 × xSt) (h : F_X8_addView v1 v2 v3 v4 v5 hi hl r = some o) : xM yX8_addView cX8_addView 10 1 (1, 0, 0) z [.ref 6, .int v1, .int v2, .int v3, .int v4, .int v5] (xhp hi hl r) (xoI o) := by
  refine x_meth2 (C := RX8) (ini := false) (L := [some (.ref 6), some (.int v1), some (.int v2), some (.int v3), some (.int v4), some (.int v5), none, none, none, none]) rfl (by decide) (fun h9 => by cases h9) (by decide) (Nat.le_of_ble_eq_true rfl) rfl ?_
  refine x_aload_n (pc' := 1) dX8_addView_0 rfl rfl ?_
  refine x_geti (pc' := 4) dX8_addView_1 f_X8_37 (by decide) rfl rfl rfl ?_
  refine x_istore (pc' := 6) (L' := [some (.ref 6), some (.int v1), some (.int v2), some (.int v3), some (.int v4), some (.int v5), some (.int (hi 6 8)), none, none, none]) dX8_addView_4 (Nat.le_of_ble_eq_true rfl) rfl rfl ?_
  refine x_aload_n (pc' := 7) dX8_addView_6 rfl rfl ?_
  refine x_iload_n (pc' := 8) dX8_addView_7 rfl rfl ?_
  refine xg_bI h (fun w2 hi2 hl2 r2 e1 h => ?_)
  refine x_callV (pc' := 11) (S := []) (As := [.int v1]) (b' := (0, 0, 0)) dX8_addView_8 l_X8_41 m_X8_depthUpon rfl rfl (show 6 < 122 by decide) rfl (Nat.le_of_ble_eq_true rfl) (Nat.le_of_ble_eq_true rfl) (Nat.le_of_ble_eq_true rfl) (Nat.le_of_ble_eq_true rfl) (r_X8_depthUpon _ _ _ _ _ e1) rfl ?_
  refine x_istore (pc' := 13) (L' := [some (.ref 6), some (.int v1), some (.int v2), some (.int v3), some (.int v4), some (.int v5), some (.int (hi 6 8)), some (.int w2), none, none]) dX8_addView_11 (Nat.le_of_ble_eq_true rfl) rfl rfl ?_
  refine x_iload_n (pc' := 14) dX8_addView_13 rfl rfl ?_
  refine x_bipush (pc' := 16) (x := 10) dX8_addView_14 (by decide) rfl ?_
  refine x_isub (pc' := 17) dX8_addView_16 rfl ?_
  refine x_istore (pc' := 19) (L' := [some (.ref 6), some (.int v1), some (.int v2), some (.int v3), some (.int v4), some (.int v5), some (.int (hi 6 8)), some (.int w2), some (.int (v1 - (10 : Int32))), none]) dX8_addView_17 (Nat.le_of_ble_eq_true rfl) rfl rfl ?_
  refine x_iconst (pc' := 20) (x := 0) dX8_addView_19 (by decide) rfl ?_
  refine x_istore (pc' := 22) (L' := [some (.ref 6), some (.int v1), some (.int v2), some (.int v3), some (.int v4), some (.int v5), some (.int (hi 6 8)), some (.int w2), some (.int (v1 - (10 : Int32))), some (.int (0 : Int32))]) dX8_addView_20 (Nat.le_of_ble_eq_true rfl) rfl rfl ?_
  exact r_X8_addView_22 1000000 _ _ _ _ _ _ _ _ _ _ _ _ _ h
def F_X8_cellAt (v1 : Int32) (v2 : Int32) (hi : Nat → Nat → Int32) (hl : Nat → Nat → Int64) (r : xRr) : Option (Int32 × xSt) := xbI (F_X8_placeInBank v1 v2 hi hl r) (fun w2 hi2 hl2 r2 => if w2 = ((-1000) : Int32) then some (((-1) : Int32), hi2, hl2, r2) else if xok v1 8 = true then xbI (F_X0_hasCell (hi2 13 (Int32.toNatClampNeg v1)) w2 hi2 hl2 r2) (fun w6 hi6 hl6 r6 => if w6 = 0 then some (((-1) : Int32), hi6, hl6, r6) else some ((((hi6 13 (Int32.toNatClampNeg v1)) * (12 : Int32)) + w2), hi6, hl6, r6)) else none)
set_option maxRecDepth 20000 in
set_option maxHeartbeats 2000000 in
theorem r_X8_cellAt (v1 : Int32) (v2 : Int32) (hi : Nat → Nat → Int32) (hl : Nat → Nat → Int64) (r : xRr) (o : Int32 × xSt) (h : F_X8_cellAt v1 v2 hi hl r = some o) : xM yX8_cellAt cX8_cellAt 4 1 (1, 0, 0) z [.ref 6, .int v1, .int v2] (xhp hi hl r) (xoI o) := by
  refine x_meth2 (C := RX8) (ini := false) (L := [some (.ref 6), some (.int v1), some (.int v2), none]) rfl (by decide) (fun h9 => by cases h9) (by decide) (Nat.le_of_ble_eq_true rfl) rfl ?_
  refine x_aload_n (pc' := 1) dX8_cellAt_0 rfl rfl ?_
  refine x_iload_n (pc' := 2) dX8_cellAt_1 rfl rfl ?_
  refine x_iload_n (pc' := 3) dX8_cellAt_2 rfl rfl ?_
  refine xg_bI h (fun w2 hi2 hl2 r2 e1 h => ?_)
  refine x_callV (pc' := 6) (S := []) (As := [.int v1, .int v2]) (b' := (0, 0, 0)) dX8_cellAt_3 l_X8_45 m_X8_placeInBank rfl rfl (show 6 < 122 by decide) rfl (Nat.le_of_ble_eq_true rfl) (Nat.le_of_ble_eq_true rfl) (Nat.le_of_ble_eq_true rfl) (Nat.le_of_ble_eq_true rfl) (r_X8_placeInBank _ _ _ _ _ _ e1) rfl ?_
  refine x_istore_n (pc' := 7) (L' := [some (.ref 6), some (.int v1), some (.int v2), some (.int w2)]) dX8_cellAt_6 (Nat.le_of_ble_eq_true rfl) rfl rfl ?_
  refine x_iload_n (pc' := 8) dX8_cellAt_7 rfl rfl ?_
  refine x_sipush (pc' := 11) (x := (-1000)) dX8_cellAt_8 (by decide) rfl ?_
  refine xg_ite h (fun g3 h => ?_) (fun g3 h => ?_)
  · refine x_icmp_eq (tgt := 45) (pc' := 14) dX8_cellAt_11 (by decide) rfl (fun _ => ?_) (fun hn => absurd g3 hn)
    refine x_iconst (pc' := 46) (x := (-1)) dX8_cellAt_45 (by decide) rfl ?_
    obtain rfl := Option.some.inj h
    exact x_iret dX8_cellAt_46 rfl rfl (Nat.le_of_ble_eq_true rfl) rfl
  · refine x_icmp_eq (tgt := 45) (pc' := 14) dX8_cellAt_11 (by decide) rfl (fun hn => absurd hn g3) (fun _ => ?_)
    refine x_aload_n (pc' := 15) dX8_cellAt_14 rfl rfl ?_
    refine x_getr (pc' := 18) (t := 1) dX8_cellAt_15 f_X8_33 (by decide) rfl rfl rfl rfl ?_
    refine x_aload_n (pc' := 19) dX8_cellAt_18 rfl rfl ?_
    refine x_getr (pc' := 22) (t := 13) dX8_cellAt_19 f_X8_30 (by decide) rfl rfl rfl rfl ?_
    refine x_iload_n (pc' := 23) dX8_cellAt_22 rfl rfl ?_
    refine xg_if h (fun g4 h => ?_)
    refine x_iald (pc' := 24) dX8_cellAt_23 (by decide) rfl (xok_in g4) rfl ?_
    refine x_iload_n (pc' := 25) dX8_cellAt_24 rfl rfl ?_
    refine xg_bI h (fun w6 hi6 hl6 r6 e5 h => ?_)
    refine x_callV (pc' := 28) (S := []) (As := [.int (hi2 13 (Int32.toNatClampNeg v1)), .int w2]) (b' := (0, 0, 0)) dX8_cellAt_25 l_X8_49 m_X0_hasCell rfl rfl (show 1 < 122 by decide) rfl (Nat.le_of_ble_eq_true rfl) (Nat.le_of_ble_eq_true rfl) (Nat.le_of_ble_eq_true rfl) (Nat.le_of_ble_eq_true rfl) (r_X0_hasCell _ _ _ _ _ _ e5) rfl ?_
    refine xg_ite h (fun g7 h => ?_) (fun g7 h => ?_)
    · refine x_if_eq (tgt := 45) (pc' := 31) dX8_cellAt_28 (by decide) rfl (fun _ => ?_) (fun hn => absurd g7 hn)
      refine x_iconst (pc' := 46) (x := (-1)) dX8_cellAt_45 (by decide) rfl ?_
      obtain rfl := Option.some.inj h
      exact x_iret dX8_cellAt_46 rfl rfl (Nat.le_of_ble_eq_true rfl) rfl
    · refine x_if_eq (tgt := 45) (pc' := 31) dX8_cellAt_28 (by decide) rfl (fun hn => absurd hn g7) (fun _ => ?_)
      refine x_aload_n (pc' := 32) dX8_cellAt_31 rfl rfl ?_
      refine x_getr (pc' := 35) (t := 13) dX8_cellAt_32 f_X8_30 (by decide) rfl rfl rfl rfl ?_
      refine x_iload_n (pc' := 36) dX8_cellAt_35 rfl rfl ?_
      refine x_iald (pc' := 37) dX8_cellAt_36 (by decide) rfl (xok_in g4) rfl ?_
      refine x_bipush (pc' := 39) (x := 12) dX8_cellAt_37 (by decide) rfl ?_
      refine x_imul (pc' := 40) dX8_cellAt_39 rfl ?_
      refine x_iload_n (pc' := 41) dX8_cellAt_40 rfl rfl ?_
      refine x_iadd (pc' := 42) dX8_cellAt_41 rfl ?_
      refine x_goto (tgt := 46) dX8_cellAt_42 (by decide) ?_
      obtain rfl := Option.some.inj h
      exact x_iret dX8_cellAt_46 rfl rfl (Nat.le_of_ble_eq_true rfl) rfl
def F_X8_findsCell_11 : Nat → Int32 → Int32 → Int32 → Int32 → (Nat → Nat → Int32) → (Nat → Nat → Int64) → xRr → Option (Int32 × xSt)
  | 0, _, _, _, _, _, _, _ => none
  | n + 1, v1, v3, v4, v5, hi, hl, r => if v3 ≤ v5 then some ((0 : Int32), hi, hl, r) else xbI (F_X8_cellAt v1 v5 hi hl r) (fun w3 hi3 hl3 r3 => if w3 = v4 then some ((1 : Int32), hi3, hl3, r3) else (F_X8_findsCell_11 n) v1 v3 v4 (v5 + (1)) hi3 hl3 r3)
set_option maxRecDepth 20000 in
set_option maxHeartbeats 2000000 in
theorem r_X8_findsCell_11 : ∀ (n : Nat) (v1 : Int32) (v3 : Int32) (v4 : Int32) (v5 : Int32) (d2 : Option Value) (hi : Nat → Nat → Int32) (hl : Nat → Nat → Int64) (r : xRr) (o : Int32 × xSt), F_X8_findsCell_11 n v1 v3 v4 v5 hi hl r = some o → xR (RX8, cX8_findsCell, 6, false, 3) (2, 0, 0) z 0 0 11 [some (.ref 6), some (.int v1), d2, some (.int v3), some (.int v4), some (.int v5)] [] (xhp hi hl r) (xoI o) := by
  intro n
  induction n with
  | zero =>
    intro v1 v3 v4 v5 d2 hi hl r o h
    have h : none = some o := h
    cases h
  | succ n ih =>
    intro v1 v3 v4 v5 d2 hi hl r o h
    refine x_iload (pc' := 13) dX8_findsCell_11 rfl rfl ?_
    refine x_iload_n (pc' := 14) dX8_findsCell_13 rfl rfl ?_
    refine xg_ite h (fun g1 h => ?_) (fun g1 h => ?_)
    · refine x_icmp_ge (tgt := 37) (pc' := 17) dX8_findsCell_14 (by decide) rfl (fun _ => ?_) (fun hn => absurd g1 hn)
      refine x_iconst (pc' := 38) (x := 0) dX8_findsCell_37 (by decide) rfl ?_
      obtain rfl := Option.some.inj h
      exact x_zret dX8_findsCell_38 rfl (Or.inl rfl) rfl (Nat.le_of_ble_eq_true rfl) rfl
    · refine x_icmp_ge (tgt := 37) (pc' := 17) dX8_findsCell_14 (by decide) rfl (fun hn => absurd hn g1) (fun _ => ?_)
      refine x_aload_n (pc' := 18) dX8_findsCell_17 rfl rfl ?_
      refine x_iload_n (pc' := 19) dX8_findsCell_18 rfl rfl ?_
      refine x_iload (pc' := 21) dX8_findsCell_19 rfl rfl ?_
      refine xg_bI h (fun w3 hi3 hl3 r3 e2 h => ?_)
      refine x_callV (pc' := 24) (S := []) (As := [.int v1, .int v5]) (b' := (1, 0, 0)) dX8_findsCell_21 l_X8_78 m_X8_cellAt rfl rfl (show 6 < 122 by decide) rfl (Nat.le_of_ble_eq_true rfl) (Nat.le_of_ble_eq_true rfl) (Nat.le_of_ble_eq_true rfl) (Nat.le_of_ble_eq_true rfl) (r_X8_cellAt _ _ _ _ _ _ e2) rfl ?_
      refine x_iload (pc' := 26) dX8_findsCell_24 rfl rfl ?_
      refine xg_ite h (fun g4 h => ?_) (fun g4 h => ?_)
      · refine x_icmp_ne (tgt := 31) (pc' := 29) dX8_findsCell_26 (by decide) rfl (fun hn => absurd g4 hn) (fun _ => ?_)
        refine x_iconst (pc' := 30) (x := 1) dX8_findsCell_29 (by decide) rfl ?_
        obtain rfl := Option.some.inj h
        exact x_zret dX8_findsCell_30 rfl (Or.inr rfl) rfl (Nat.le_of_ble_eq_true rfl) rfl
      · refine x_icmp_ne (tgt := 31) (pc' := 29) dX8_findsCell_26 (by decide) rfl (fun _ => ?_) (fun hn => absurd hn g4)
        refine x_iinc (pc' := 34) (v := (v5 + (1))) (L' := [some (.ref 6), some (.int v1), d2, some (.int v3), some (.int v4), some (.int (v5 + (1)))]) dX8_findsCell_31 rfl rfl (Nat.le_of_ble_eq_true rfl) rfl rfl ?_
        refine x_goto (tgt := 11) dX8_findsCell_34 (by decide) ?_
        exact ih _ _ _ _ _ _ _ _ _ h
def F_X8_findsCell (v1 : Int32) (v2 : Int32) (v3 : Int32) (v4 : Int32) (hi : Nat → Nat → Int32) (hl : Nat → Nat → Int64) (r : xRr) : Option (Int32 × xSt) := if v4 = ((-1) : Int32) then some ((0 : Int32), hi, hl, r) else F_X8_findsCell_11 1000000 v1 v3 v4 v2 hi hl r
set_option maxRecDepth 20000 in
set_option maxHeartbeats 2000000 in
theorem r_X8_findsCell (v1 : Int32) (v2 : Int32) (v3 : Int32) (v4 : Int32) (hi : Nat → Nat → Int32) (hl : Nat → Nat → Int64) (r : xRr) (o : Int32 × xSt) (h : F_X8_findsCell v1 v2 v3 v4 hi hl r = some o) : xM yX8_findsCell cX8_findsCell 6 3 (2, 0, 0) z [.ref 6, .int v1, .int v2, .int v3, .int v4] (xhp hi hl r) (xoI o) := by
  refine x_meth2 (C := RX8) (ini := false) (L := [some (.ref 6), some (.int v1), some (.int v2), some (.int v3), some (.int v4), none]) rfl (by decide) (fun h9 => by cases h9) (by decide) (Nat.le_of_ble_eq_true rfl) rfl ?_
  refine x_iload (pc' := 2) dX8_findsCell_0 rfl rfl ?_
  refine x_iconst (pc' := 3) (x := (-1)) dX8_findsCell_2 (by decide) rfl ?_
  refine xg_ite h (fun g1 h => ?_) (fun g1 h => ?_)
  · refine x_icmp_ne (tgt := 8) (pc' := 6) dX8_findsCell_3 (by decide) rfl (fun hn => absurd g1 hn) (fun _ => ?_)
    refine x_iconst (pc' := 7) (x := 0) dX8_findsCell_6 (by decide) rfl ?_
    obtain rfl := Option.some.inj h
    exact x_zret dX8_findsCell_7 rfl (Or.inl rfl) rfl (Nat.le_of_ble_eq_true rfl) rfl
  · refine x_icmp_ne (tgt := 8) (pc' := 6) dX8_findsCell_3 (by decide) rfl (fun _ => ?_) (fun hn => absurd hn g1)
    refine x_iload_n (pc' := 9) dX8_findsCell_8 rfl rfl ?_
    refine x_istore (pc' := 11) (L' := [some (.ref 6), some (.int v1), some (.int v2), some (.int v3), some (.int v4), some (.int v2)]) dX8_findsCell_9 (Nat.le_of_ble_eq_true rfl) rfl rfl ?_
    exact r_X8_findsCell_11 1000000 _ _ _ _ _ _ _ _ _ h
def F_X8_shared_45 (K5 : Int32 → Int32 → Int32 → Int32 → (Nat → Nat → Int32) → (Nat → Nat → Int64) → xRr → Option (Int32 × xSt)) (v1 : Int32) (v2 : Int32) (v3 : Int32) (v4 : Int32) (hi : Nat → Nat → Int32) (hl : Nat → Nat → Int64) (r : xRr) : Option (Int32 × xSt) := K5 v1 v2 v3 (v4 + (1)) hi hl r
set_option maxRecDepth 20000 in
set_option maxHeartbeats 2000000 in
theorem r_X8_shared_45 (K5 : Int32 → Int32 → Int32 → Int32 → (Nat → Nat → Int32) → (Nat → Nat → Int64) → xRr → Option (Int32 × xSt)) (hK5 : ∀ (v1 : Int32) (v2 : Int32) (v3 : Int32) (v4 : Int32) (hi : Nat → Nat → Int32) (hl : Nat → Nat → Int64) (r : xRr) (o : Int32 × xSt), K5 v1 v2 v3 v4 hi hl r = some o → xR (RX8, cX8_shared, 5, false, 1) (3, 0, 0) z 0 0 5 [some (.ref 6), some (.int v1), some (.int v2), some (.int v3), some (.int v4)] [] (xhp hi hl r) (xoI o)) (v1 : Int32) (v2 : Int32) (v3 : Int32) (v4 : Int32) (hi : Nat → Nat → Int32) (hl : Nat → Nat → Int64) (r : xRr) (o : Int32 × xSt) (h : F_X8_shared_45 K5 v1 v2 v3 v4 hi hl r = some o) : xR (RX8, cX8_shared, 5, false, 1) (3, 0, 0) z 0 0 45 [some (.ref 6), some (.int v1), some (.int v2), some (.int v3), some (.int v4)] [] (xhp hi hl r) (xoI o) := by
  refine x_iinc (pc' := 48) (v := (v4 + (1))) (L' := [some (.ref 6), some (.int v1), some (.int v2), some (.int v3), some (.int (v4 + (1)))]) dX8_shared_45 rfl rfl (Nat.le_of_ble_eq_true rfl) rfl rfl ?_
  refine x_goto (tgt := 5) dX8_shared_48 (by decide) ?_
  exact hK5 _ _ _ _ _ _ _ _ h
def F_X8_shared_5 : Nat → Int32 → Int32 → Int32 → Int32 → (Nat → Nat → Int32) → (Nat → Nat → Int64) → xRr → Option (Int32 × xSt)
  | 0, _, _, _, _, _, _, _ => none
  | n + 1, v1, v2, v3, v4, hi, hl, r => if xok v1 8 = true then if (hi 11 (Int32.toNatClampNeg v1)) ≤ v4 then some (v3, hi, hl, r) else if xok v2 8 = true then xbI (F_X8_cellAt v1 v4 hi hl r) (fun w5 hi5 hl5 r5 => xbI (F_X8_findsCell v2 (0 : Int32) (hi 11 (Int32.toNatClampNeg v2)) w5 hi5 hl5 r5) (fun w7 hi7 hl7 r7 => if w7 = 0 then F_X8_shared_45 (F_X8_shared_5 n) v1 v2 v3 v4 hi7 hl7 r7 else F_X8_shared_45 (F_X8_shared_5 n) v1 v2 (v3 ||| ((1 : Int32) <<< (v4 &&& 31))) v4 hi7 hl7 r7)) else none else none
set_option maxRecDepth 20000 in
set_option maxHeartbeats 2000000 in
theorem r_X8_shared_5 : ∀ (n : Nat) (v1 : Int32) (v2 : Int32) (v3 : Int32) (v4 : Int32) (hi : Nat → Nat → Int32) (hl : Nat → Nat → Int64) (r : xRr) (o : Int32 × xSt), F_X8_shared_5 n v1 v2 v3 v4 hi hl r = some o → xR (RX8, cX8_shared, 5, false, 1) (3, 0, 0) z 0 0 5 [some (.ref 6), some (.int v1), some (.int v2), some (.int v3), some (.int v4)] [] (xhp hi hl r) (xoI o) := by
  intro n
  induction n with
  | zero =>
    intro v1 v2 v3 v4 hi hl r o h
    have h : none = some o := h
    cases h
  | succ n ih =>
    intro v1 v2 v3 v4 hi hl r o h
    refine x_iload (pc' := 7) dX8_shared_5 rfl rfl ?_
    refine x_aload_n (pc' := 8) dX8_shared_7 rfl rfl ?_
    refine x_getr (pc' := 11) (t := 11) dX8_shared_8 f_X8_24 (by decide) rfl rfl rfl rfl ?_
    refine x_iload_n (pc' := 12) dX8_shared_11 rfl rfl ?_
    refine xg_if h (fun g1 h => ?_)
    refine x_iald (pc' := 13) dX8_shared_12 (by decide) rfl (xok_in g1) rfl ?_
    refine xg_ite h (fun g2 h => ?_) (fun g2 h => ?_)
    · refine x_icmp_ge (tgt := 51) (pc' := 16) dX8_shared_13 (by decide) rfl (fun _ => ?_) (fun hn => absurd g2 hn)
      refine x_iload_n (pc' := 52) dX8_shared_51 rfl rfl ?_
      obtain rfl := Option.some.inj h
      exact x_iret dX8_shared_52 rfl rfl (Nat.le_of_ble_eq_true rfl) rfl
    · refine x_icmp_ge (tgt := 51) (pc' := 16) dX8_shared_13 (by decide) rfl (fun hn => absurd hn g2) (fun _ => ?_)
      refine x_aload_n (pc' := 17) dX8_shared_16 rfl rfl ?_
      refine x_iload_n (pc' := 18) dX8_shared_17 rfl rfl ?_
      refine x_iconst (pc' := 19) (x := 0) dX8_shared_18 (by decide) rfl ?_
      refine x_aload_n (pc' := 20) dX8_shared_19 rfl rfl ?_
      refine x_getr (pc' := 23) (t := 11) dX8_shared_20 f_X8_24 (by decide) rfl rfl rfl rfl ?_
      refine x_iload_n (pc' := 24) dX8_shared_23 rfl rfl ?_
      refine xg_if h (fun g3 h => ?_)
      refine x_iald (pc' := 25) dX8_shared_24 (by decide) rfl (xok_in g3) rfl ?_
      refine x_aload_n (pc' := 26) dX8_shared_25 rfl rfl ?_
      refine x_iload_n (pc' := 27) dX8_shared_26 rfl rfl ?_
      refine x_iload (pc' := 29) dX8_shared_27 rfl rfl ?_
      refine xg_bI h (fun w5 hi5 hl5 r5 e4 h => ?_)
      refine x_callV (pc' := 32) (S := [.int (hi 11 (Int32.toNatClampNeg v2)), .int (0 : Int32), .int v2, .ref 6]) (As := [.int v1, .int v4]) (b' := (1, 0, 0)) dX8_shared_29 l_X8_78 m_X8_cellAt rfl rfl (show 6 < 122 by decide) rfl (Nat.le_of_ble_eq_true rfl) (Nat.le_of_ble_eq_true rfl) (Nat.le_of_ble_eq_true rfl) (Nat.le_of_ble_eq_true rfl) (r_X8_cellAt _ _ _ _ _ _ e4) rfl ?_
      refine xg_bI h (fun w7 hi7 hl7 r7 e6 h => ?_)
      refine x_callV (pc' := 35) (S := []) (As := [.int v2, .int (0 : Int32), .int (hi 11 (Int32.toNatClampNeg v2)), .int w5]) (b' := (2, 0, 0)) dX8_shared_32 l_X8_81 m_X8_findsCell rfl rfl (show 6 < 122 by decide) rfl (Nat.le_of_ble_eq_true rfl) (Nat.le_of_ble_eq_true rfl) (Nat.le_of_ble_eq_true rfl) (Nat.le_of_ble_eq_true rfl) (r_X8_findsCell _ _ _ _ _ _ _ _ e6) rfl ?_
      refine xg_ite h (fun g8 h => ?_) (fun g8 h => ?_)
      · refine x_if_eq (tgt := 45) (pc' := 38) dX8_shared_35 (by decide) rfl (fun _ => ?_) (fun hn => absurd g8 hn)
        exact r_X8_shared_45 (F_X8_shared_5 n) ih _ _ _ _ _ _ _ _ h
      · refine x_if_eq (tgt := 45) (pc' := 38) dX8_shared_35 (by decide) rfl (fun hn => absurd hn g8) (fun _ => ?_)
        refine x_iload_n (pc' := 39) dX8_shared_38 rfl rfl ?_
        refine x_iconst (pc' := 40) (x := 1) dX8_shared_39 (by decide) rfl ?_
        refine x_iload (pc' := 42) dX8_shared_40 rfl rfl ?_
        refine x_ishl (pc' := 43) dX8_shared_42 rfl ?_
        refine x_ior (pc' := 44) dX8_shared_43 rfl ?_
        refine x_istore_n (pc' := 45) (L' := [some (.ref 6), some (.int v1), some (.int v2), some (.int (v3 ||| ((1 : Int32) <<< (v4 &&& 31)))), some (.int v4)]) dX8_shared_44 (Nat.le_of_ble_eq_true rfl) rfl rfl ?_
        exact r_X8_shared_45 (F_X8_shared_5 n) ih _ _ _ _ _ _ _ _ h
def F_X8_shared (v1 : Int32) (v2 : Int32) (hi : Nat → Nat → Int32) (hl : Nat → Nat → Int64) (r : xRr) : Option (Int32 × xSt) := F_X8_shared_5 1000000 v1 v2 (0 : Int32) (0 : Int32) hi hl r
set_option maxRecDepth 20000 in
set_option maxHeartbeats 2000000 in
theorem r_X8_shared (v1 : Int32) (v2 : Int32) (hi : Nat → Nat → Int32) (hl : Nat → Nat → Int64) (r : xRr) (o : Int32 × xSt) (h : F_X8_shared v1 v2 hi hl r = some o) : xM yX8_shared cX8_shared 5 1 (3, 0, 0) z [.ref 6, .int v1, .int v2] (xhp hi hl r) (xoI o) := by
  refine x_meth2 (C := RX8) (ini := false) (L := [some (.ref 6), some (.int v1), some (.int v2), none, none]) rfl (by decide) (fun h9 => by cases h9) (by decide) (Nat.le_of_ble_eq_true rfl) rfl ?_
  refine x_iconst (pc' := 1) (x := 0) dX8_shared_0 (by decide) rfl ?_
  refine x_istore_n (pc' := 2) (L' := [some (.ref 6), some (.int v1), some (.int v2), some (.int (0 : Int32)), none]) dX8_shared_1 (Nat.le_of_ble_eq_true rfl) rfl rfl ?_
  refine x_iconst (pc' := 3) (x := 0) dX8_shared_2 (by decide) rfl ?_
  refine x_istore (pc' := 5) (L' := [some (.ref 6), some (.int v1), some (.int v2), some (.int (0 : Int32)), some (.int (0 : Int32))]) dX8_shared_3 (Nat.le_of_ble_eq_true rfl) rfl rfl ?_
  exact r_X8_shared_5 1000000 _ _ _ _ _ _ _ _ h
def F_X8_safeUpward_19 : Nat → Int32 → Int32 → Int32 → Int32 → (Nat → Nat → Int32) → (Nat → Nat → Int64) → xRr → Option (Int32 × xSt)
  | 0, _, _, _, _, _, _, _ => none
  | n + 1, v1, v2, v3, v4, hi, hl, r => if v3 ≤ v4 then some ((1 : Int32), hi, hl, r) else xbI (F_X8_cellAt v1 v4 hi hl r) (fun w3 hi3 hl3 r3 => xbI (F_X8_findsCell v2 (0 : Int32) v4 w3 hi3 hl3 r3) (fun w5 hi5 hl5 r5 => if w5 = 0 then (F_X8_safeUpward_19 n) v1 v2 v3 (v4 + (1)) hi5 hl5 r5 else some ((0 : Int32), hi5, hl5, r5)))
set_option maxRecDepth 20000 in
set_option maxHeartbeats 2000000 in
theorem r_X8_safeUpward_19 : ∀ (n : Nat) (v1 : Int32) (v2 : Int32) (v3 : Int32) (v4 : Int32) (hi : Nat → Nat → Int32) (hl : Nat → Nat → Int64) (r : xRr) (o : Int32 × xSt), F_X8_safeUpward_19 n v1 v2 v3 v4 hi hl r = some o → xR (RX8, cX8_safeUpward, 5, false, 3) (3, 0, 0) z 0 0 19 [some (.ref 6), some (.int v1), some (.int v2), some (.int v3), some (.int v4)] [] (xhp hi hl r) (xoI o) := by
  intro n
  induction n with
  | zero =>
    intro v1 v2 v3 v4 hi hl r o h
    have h : none = some o := h
    cases h
  | succ n ih =>
    intro v1 v2 v3 v4 hi hl r o h
    refine x_iload (pc' := 21) dX8_safeUpward_19 rfl rfl ?_
    refine x_iload_n (pc' := 22) dX8_safeUpward_21 rfl rfl ?_
    refine xg_ite h (fun g1 h => ?_) (fun g1 h => ?_)
    · refine x_icmp_ge (tgt := 51) (pc' := 25) dX8_safeUpward_22 (by decide) rfl (fun _ => ?_) (fun hn => absurd g1 hn)
      refine x_iconst (pc' := 52) (x := 1) dX8_safeUpward_51 (by decide) rfl ?_
      obtain rfl := Option.some.inj h
      exact x_zret dX8_safeUpward_52 rfl (Or.inr rfl) rfl (Nat.le_of_ble_eq_true rfl) rfl
    · refine x_icmp_ge (tgt := 51) (pc' := 25) dX8_safeUpward_22 (by decide) rfl (fun hn => absurd hn g1) (fun _ => ?_)
      refine x_aload_n (pc' := 26) dX8_safeUpward_25 rfl rfl ?_
      refine x_iload_n (pc' := 27) dX8_safeUpward_26 rfl rfl ?_
      refine x_iconst (pc' := 28) (x := 0) dX8_safeUpward_27 (by decide) rfl ?_
      refine x_iload (pc' := 30) dX8_safeUpward_28 rfl rfl ?_
      refine x_aload_n (pc' := 31) dX8_safeUpward_30 rfl rfl ?_
      refine x_iload_n (pc' := 32) dX8_safeUpward_31 rfl rfl ?_
      refine x_iload (pc' := 34) dX8_safeUpward_32 rfl rfl ?_
      refine xg_bI h (fun w3 hi3 hl3 r3 e2 h => ?_)
      refine x_callV (pc' := 37) (S := [.int v4, .int (0 : Int32), .int v2, .ref 6]) (As := [.int v1, .int v4]) (b' := (1, 0, 0)) dX8_safeUpward_34 l_X8_78 m_X8_cellAt rfl rfl (show 6 < 122 by decide) rfl (Nat.le_of_ble_eq_true rfl) (Nat.le_of_ble_eq_true rfl) (Nat.le_of_ble_eq_true rfl) (Nat.le_of_ble_eq_true rfl) (r_X8_cellAt _ _ _ _ _ _ e2) rfl ?_
      refine xg_bI h (fun w5 hi5 hl5 r5 e4 h => ?_)
      refine x_callV (pc' := 40) (S := []) (As := [.int v2, .int (0 : Int32), .int v4, .int w3]) (b' := (2, 0, 0)) dX8_safeUpward_37 l_X8_81 m_X8_findsCell rfl rfl (show 6 < 122 by decide) rfl (Nat.le_of_ble_eq_true rfl) (Nat.le_of_ble_eq_true rfl) (Nat.le_of_ble_eq_true rfl) (Nat.le_of_ble_eq_true rfl) (r_X8_findsCell _ _ _ _ _ _ _ _ e4) rfl ?_
      refine xg_ite h (fun g6 h => ?_) (fun g6 h => ?_)
      · refine x_if_eq (tgt := 45) (pc' := 43) dX8_safeUpward_40 (by decide) rfl (fun _ => ?_) (fun hn => absurd g6 hn)
        refine x_iinc (pc' := 48) (v := (v4 + (1))) (L' := [some (.ref 6), some (.int v1), some (.int v2), some (.int v3), some (.int (v4 + (1)))]) dX8_safeUpward_45 rfl rfl (Nat.le_of_ble_eq_true rfl) rfl rfl ?_
        refine x_goto (tgt := 19) dX8_safeUpward_48 (by decide) ?_
        exact ih _ _ _ _ _ _ _ _ h
      · refine x_if_eq (tgt := 45) (pc' := 43) dX8_safeUpward_40 (by decide) rfl (fun hn => absurd hn g6) (fun _ => ?_)
        refine x_iconst (pc' := 44) (x := 0) dX8_safeUpward_43 (by decide) rfl ?_
        obtain rfl := Option.some.inj h
        exact x_zret dX8_safeUpward_44 rfl (Or.inl rfl) rfl (Nat.le_of_ble_eq_true rfl) rfl
def F_X8_safeUpward (v1 : Int32) (v2 : Int32) (hi : Nat → Nat → Int32) (hl : Nat → Nat → Int64) (r : xRr) : Option (Int32 × xSt) := if xok v1 8 = true then if xok v2 8 = true then F_X8_safeUpward_19 1000000 v1 v2 (if (hi 11 (Int32.toNatClampNeg v2)) < (hi 11 (Int32.toNatClampNeg v1)) then (hi 11 (Int32.toNatClampNeg v2)) else (hi 11 (Int32.toNatClampNeg v1))) (0 : Int32) hi hl r else none else none
set_option maxRecDepth 20000 in
set_option maxHeartbeats 2000000 in
theorem r_X8_safeUpward (v1 : Int32) (v2 : Int32) (hi : Nat → Nat → Int32) (hl : Nat → Nat → Int64) (r : xRr) (o : Int32 × xSt) (h : F_X8_safeUpward v1 v2 hi hl r = some o) : xM yX8_safeUpward cX8_safeUpward 5 3 (3, 0, 0) z [.ref 6, .int v1, .int v2] (xhp hi hl r) (xoI o) := by
  refine x_meth2 (C := RX8) (ini := false) (L := [some (.ref 6), some (.int v1), some (.int v2), none, none]) rfl (by decide) (fun h9 => by cases h9) (by decide) (Nat.le_of_ble_eq_true rfl) rfl ?_
  refine x_aload_n (pc' := 1) dX8_safeUpward_0 rfl rfl ?_
  refine x_getr (pc' := 4) (t := 11) dX8_safeUpward_1 f_X8_24 (by decide) rfl rfl rfl rfl ?_
  refine x_iload_n (pc' := 5) dX8_safeUpward_4 rfl rfl ?_
  refine xg_if h (fun g1 h => ?_)
  refine x_iald (pc' := 6) dX8_safeUpward_5 (by decide) rfl (xok_in g1) rfl ?_
  refine x_aload_n (pc' := 7) dX8_safeUpward_6 rfl rfl ?_
  refine x_getr (pc' := 10) (t := 11) dX8_safeUpward_7 f_X8_24 (by decide) rfl rfl rfl rfl ?_
  refine x_iload_n (pc' := 11) dX8_safeUpward_10 rfl rfl ?_
  refine xg_if h (fun g2 h => ?_)
  refine x_iald (pc' := 12) dX8_safeUpward_11 (by decide) rfl (xok_in g2) rfl ?_
  refine x_mmin (pc' := 15) dX8_safeUpward_12 ml_X8_85 ma_J9_min_7cf53 mc_math mb_J9_min_7cf53 (Nat.le_of_ble_eq_true rfl) (Nat.le_of_ble_eq_true rfl) (Nat.le_of_ble_eq_true rfl) (Nat.le_of_ble_eq_true rfl) rfl ?_
  refine x_istore_n (pc' := 16) (L' := [some (.ref 6), some (.int v1), some (.int v2), some (.int (if (hi 11 (Int32.toNatClampNeg v2)) < (hi 11 (Int32.toNatClampNeg v1)) then (hi 11 (Int32.toNatClampNeg v2)) else (hi 11 (Int32.toNatClampNeg v1)))), none]) dX8_safeUpward_15 (Nat.le_of_ble_eq_true rfl) rfl rfl ?_
  refine x_iconst (pc' := 17) (x := 0) dX8_safeUpward_16 (by decide) rfl ?_
  refine x_istore (pc' := 19) (L' := [some (.ref 6), some (.int v1), some (.int v2), some (.int (if (hi 11 (Int32.toNatClampNeg v2)) < (hi 11 (Int32.toNatClampNeg v1)) then (hi 11 (Int32.toNatClampNeg v2)) else (hi 11 (Int32.toNatClampNeg v1)))), some (.int (0 : Int32))]) dX8_safeUpward_17 (Nat.le_of_ble_eq_true rfl) rfl rfl ?_
  exact r_X8_safeUpward_19 1000000 _ _ _ _ _ _ _ _ h
def F_X8_safeDownward_19 : Nat → Int32 → Int32 → Int32 → Int32 → (Nat → Nat → Int32) → (Nat → Nat → Int64) → xRr → Option (Int32 × xSt)
  | 0, _, _, _, _, _, _, _ => none
  | n + 1, v1, v2, v3, v4, hi, hl, r => if v3 ≤ v4 then some ((1 : Int32), hi, hl, r) else xbI (F_X8_cellAt v1 v4 hi hl r) (fun w3 hi3 hl3 r3 => xbI (F_X8_findsCell v2 (v4 + (1 : Int32)) v3 w3 hi3 hl3 r3) (fun w5 hi5 hl5 r5 => if w5 = 0 then xbI (F_X8_cellAt v2 v4 hi5 hl5 r5) (fun w8 hi8 hl8 r8 => xbI (F_X8_findsCell v2 (v4 + (1 : Int32)) v3 w8 hi8 hl8 r8) (fun w10 hi10 hl10 r10 => if w10 = 0 then (F_X8_safeDownward_19 n) v1 v2 v3 (v4 + (1)) hi10 hl10 r10 else some ((0 : Int32), hi10, hl10, r10))) else some ((0 : Int32), hi5, hl5, r5)))
set_option maxRecDepth 20000 in
set_option maxHeartbeats 2000000 in
theorem r_X8_safeDownward_19 : ∀ (n : Nat) (v1 : Int32) (v2 : Int32) (v3 : Int32) (v4 : Int32) (hi : Nat → Nat → Int32) (hl : Nat → Nat → Int64) (r : xRr) (o : Int32 × xSt), F_X8_safeDownward_19 n v1 v2 v3 v4 hi hl r = some o → xR (RX8, cX8_safeDownward, 5, false, 3) (3, 0, 0) z 0 0 19 [some (.ref 6), some (.int v1), some (.int v2), some (.int v3), some (.int v4)] [] (xhp hi hl r) (xoI o) := by
  intro n
  induction n with
  | zero =>
    intro v1 v2 v3 v4 hi hl r o h
    have h : none = some o := h
    cases h
  | succ n ih =>
    intro v1 v2 v3 v4 hi hl r o h
    refine x_iload (pc' := 21) dX8_safeDownward_19 rfl rfl ?_
    refine x_iload_n (pc' := 22) dX8_safeDownward_21 rfl rfl ?_
    refine xg_ite h (fun g1 h => ?_) (fun g1 h => ?_)
    · refine x_icmp_ge (tgt := 73) (pc' := 25) dX8_safeDownward_22 (by decide) rfl (fun _ => ?_) (fun hn => absurd g1 hn)
      refine x_iconst (pc' := 74) (x := 1) dX8_safeDownward_73 (by decide) rfl ?_
      obtain rfl := Option.some.inj h
      exact x_zret dX8_safeDownward_74 rfl (Or.inr rfl) rfl (Nat.le_of_ble_eq_true rfl) rfl
    · refine x_icmp_ge (tgt := 73) (pc' := 25) dX8_safeDownward_22 (by decide) rfl (fun hn => absurd hn g1) (fun _ => ?_)
      refine x_aload_n (pc' := 26) dX8_safeDownward_25 rfl rfl ?_
      refine x_iload_n (pc' := 27) dX8_safeDownward_26 rfl rfl ?_
      refine x_iload (pc' := 29) dX8_safeDownward_27 rfl rfl ?_
      refine x_iconst (pc' := 30) (x := 1) dX8_safeDownward_29 (by decide) rfl ?_
      refine x_iadd (pc' := 31) dX8_safeDownward_30 rfl ?_
      refine x_iload_n (pc' := 32) dX8_safeDownward_31 rfl rfl ?_
      refine x_aload_n (pc' := 33) dX8_safeDownward_32 rfl rfl ?_
      refine x_iload_n (pc' := 34) dX8_safeDownward_33 rfl rfl ?_
      refine x_iload (pc' := 36) dX8_safeDownward_34 rfl rfl ?_
      refine xg_bI h (fun w3 hi3 hl3 r3 e2 h => ?_)
      refine x_callV (pc' := 39) (S := [.int v3, .int (v4 + (1 : Int32)), .int v2, .ref 6]) (As := [.int v1, .int v4]) (b' := (1, 0, 0)) dX8_safeDownward_36 l_X8_78 m_X8_cellAt rfl rfl (show 6 < 122 by decide) rfl (Nat.le_of_ble_eq_true rfl) (Nat.le_of_ble_eq_true rfl) (Nat.le_of_ble_eq_true rfl) (Nat.le_of_ble_eq_true rfl) (r_X8_cellAt _ _ _ _ _ _ e2) rfl ?_
      refine xg_bI h (fun w5 hi5 hl5 r5 e4 h => ?_)
      refine x_callV (pc' := 42) (S := []) (As := [.int v2, .int (v4 + (1 : Int32)), .int v3, .int w3]) (b' := (2, 0, 0)) dX8_safeDownward_39 l_X8_81 m_X8_findsCell rfl rfl (show 6 < 122 by decide) rfl (Nat.le_of_ble_eq_true rfl) (Nat.le_of_ble_eq_true rfl) (Nat.le_of_ble_eq_true rfl) (Nat.le_of_ble_eq_true rfl) (r_X8_findsCell _ _ _ _ _ _ _ _ e4) rfl ?_
      refine xg_ite h (fun g6 h => ?_) (fun g6 h => ?_)
      · refine x_if_ne (tgt := 65) (pc' := 45) dX8_safeDownward_42 (by decide) rfl (fun hn => absurd g6 hn) (fun _ => ?_)
        refine x_aload_n (pc' := 46) dX8_safeDownward_45 rfl rfl ?_
        refine x_iload_n (pc' := 47) dX8_safeDownward_46 rfl rfl ?_
        refine x_iload (pc' := 49) dX8_safeDownward_47 rfl rfl ?_
        refine x_iconst (pc' := 50) (x := 1) dX8_safeDownward_49 (by decide) rfl ?_
        refine x_iadd (pc' := 51) dX8_safeDownward_50 rfl ?_
        refine x_iload_n (pc' := 52) dX8_safeDownward_51 rfl rfl ?_
        refine x_aload_n (pc' := 53) dX8_safeDownward_52 rfl rfl ?_
        refine x_iload_n (pc' := 54) dX8_safeDownward_53 rfl rfl ?_
        refine x_iload (pc' := 56) dX8_safeDownward_54 rfl rfl ?_
        refine xg_bI h (fun w8 hi8 hl8 r8 e7 h => ?_)
        refine x_callV (pc' := 59) (S := [.int v3, .int (v4 + (1 : Int32)), .int v2, .ref 6]) (As := [.int v2, .int v4]) (b' := (1, 0, 0)) dX8_safeDownward_56 l_X8_78 m_X8_cellAt rfl rfl (show 6 < 122 by decide) rfl (Nat.le_of_ble_eq_true rfl) (Nat.le_of_ble_eq_true rfl) (Nat.le_of_ble_eq_true rfl) (Nat.le_of_ble_eq_true rfl) (r_X8_cellAt _ _ _ _ _ _ e7) rfl ?_
        refine xg_bI h (fun w10 hi10 hl10 r10 e9 h => ?_)
        refine x_callV (pc' := 62) (S := []) (As := [.int v2, .int (v4 + (1 : Int32)), .int v3, .int w8]) (b' := (2, 0, 0)) dX8_safeDownward_59 l_X8_81 m_X8_findsCell rfl rfl (show 6 < 122 by decide) rfl (Nat.le_of_ble_eq_true rfl) (Nat.le_of_ble_eq_true rfl) (Nat.le_of_ble_eq_true rfl) (Nat.le_of_ble_eq_true rfl) (r_X8_findsCell _ _ _ _ _ _ _ _ e9) rfl ?_
        refine xg_ite h (fun g11 h => ?_) (fun g11 h => ?_)
        · refine x_if_eq (tgt := 67) (pc' := 65) dX8_safeDownward_62 (by decide) rfl (fun _ => ?_) (fun hn => absurd g11 hn)
          refine x_iinc (pc' := 70) (v := (v4 + (1))) (L' := [some (.ref 6), some (.int v1), some (.int v2), some (.int v3), some (.int (v4 + (1)))]) dX8_safeDownward_67 rfl rfl (Nat.le_of_ble_eq_true rfl) rfl rfl ?_
          refine x_goto (tgt := 19) dX8_safeDownward_70 (by decide) ?_
          exact ih _ _ _ _ _ _ _ _ h
        · refine x_if_eq (tgt := 67) (pc' := 65) dX8_safeDownward_62 (by decide) rfl (fun hn => absurd hn g11) (fun _ => ?_)
          refine x_iconst (pc' := 66) (x := 0) dX8_safeDownward_65 (by decide) rfl ?_
          obtain rfl := Option.some.inj h
          exact x_zret dX8_safeDownward_66 rfl (Or.inl rfl) rfl (Nat.le_of_ble_eq_true rfl) rfl
      · refine x_if_ne (tgt := 65) (pc' := 45) dX8_safeDownward_42 (by decide) rfl (fun _ => ?_) (fun hn => absurd hn g6)
        refine x_iconst (pc' := 66) (x := 0) dX8_safeDownward_65 (by decide) rfl ?_
        obtain rfl := Option.some.inj h
        exact x_zret dX8_safeDownward_66 rfl (Or.inl rfl) rfl (Nat.le_of_ble_eq_true rfl) rfl
def F_X8_safeDownward (v1 : Int32) (v2 : Int32) (hi : Nat → Nat → Int32) (hl : Nat → Nat → Int64) (r : xRr) : Option (Int32 × xSt) := if xok v1 8 = true then if xok v2 8 = true then F_X8_safeDownward_19 1000000 v1 v2 (if (hi 11 (Int32.toNatClampNeg v2)) < (hi 11 (Int32.toNatClampNeg v1)) then (hi 11 (Int32.toNatClampNeg v2)) else (hi 11 (Int32.toNatClampNeg v1))) (0 : Int32) hi hl r else none else none
set_option maxRecDepth 20000 in
set_option maxHeartbeats 2000000 in
theorem r_X8_safeDownward (v1 : Int32) (v2 : Int32) (hi : Nat → Nat → Int32) (hl : Nat → Nat → Int64) (r : xRr) (o : Int32 × xSt) (h : F_X8_safeDownward v1 v2 hi hl r = some o) : xM yX8_safeDownward cX8_safeDownward 5 3 (3, 0, 0) z [.ref 6, .int v1, .int v2] (xhp hi hl r) (xoI o) := by
  refine x_meth2 (C := RX8) (ini := false) (L := [some (.ref 6), some (.int v1), some (.int v2), none, none]) rfl (by decide) (fun h9 => by cases h9) (by decide) (Nat.le_of_ble_eq_true rfl) rfl ?_
  refine x_aload_n (pc' := 1) dX8_safeDownward_0 rfl rfl ?_
  refine x_getr (pc' := 4) (t := 11) dX8_safeDownward_1 f_X8_24 (by decide) rfl rfl rfl rfl ?_
  refine x_iload_n (pc' := 5) dX8_safeDownward_4 rfl rfl ?_
  refine xg_if h (fun g1 h => ?_)
  refine x_iald (pc' := 6) dX8_safeDownward_5 (by decide) rfl (xok_in g1) rfl ?_
  refine x_aload_n (pc' := 7) dX8_safeDownward_6 rfl rfl ?_
  refine x_getr (pc' := 10) (t := 11) dX8_safeDownward_7 f_X8_24 (by decide) rfl rfl rfl rfl ?_
  refine x_iload_n (pc' := 11) dX8_safeDownward_10 rfl rfl ?_
  refine xg_if h (fun g2 h => ?_)
  refine x_iald (pc' := 12) dX8_safeDownward_11 (by decide) rfl (xok_in g2) rfl ?_
  refine x_mmin (pc' := 15) dX8_safeDownward_12 ml_X8_85 ma_J9_min_7cf53 mc_math mb_J9_min_7cf53 (Nat.le_of_ble_eq_true rfl) (Nat.le_of_ble_eq_true rfl) (Nat.le_of_ble_eq_true rfl) (Nat.le_of_ble_eq_true rfl) rfl ?_
  refine x_istore_n (pc' := 16) (L' := [some (.ref 6), some (.int v1), some (.int v2), some (.int (if (hi 11 (Int32.toNatClampNeg v2)) < (hi 11 (Int32.toNatClampNeg v1)) then (hi 11 (Int32.toNatClampNeg v2)) else (hi 11 (Int32.toNatClampNeg v1)))), none]) dX8_safeDownward_15 (Nat.le_of_ble_eq_true rfl) rfl rfl ?_
  refine x_iconst (pc' := 17) (x := 0) dX8_safeDownward_16 (by decide) rfl ?_
  refine x_istore (pc' := 19) (L' := [some (.ref 6), some (.int v1), some (.int v2), some (.int (if (hi 11 (Int32.toNatClampNeg v2)) < (hi 11 (Int32.toNatClampNeg v1)) then (hi 11 (Int32.toNatClampNeg v2)) else (hi 11 (Int32.toNatClampNeg v1)))), some (.int (0 : Int32))]) dX8_safeDownward_17 (Nat.le_of_ble_eq_true rfl) rfl rfl ?_
  exact r_X8_safeDownward_19 1000000 _ _ _ _ _ _ _ _ h
def F_X9_begin (hi : Nat → Nat → Int32) (hl : Nat → Nat → Int64) (r : xRr) : Option (xSt) := some ((xu (xu hi 33 4 (0 : Int32)) 33 3 (0 : Int32)), hl, r)
set_option maxRecDepth 20000 in
set_option maxHeartbeats 2000000 in
theorem r_X9_begin (hi : Nat → Nat → Int32) (hl : Nat → Nat → Int64) (r : xRr) (o : xSt) (h : F_X9_begin hi hl r = some o) : xM yX9_begin cX9_begin 1 0 (0, 0, 0) z [.ref 33] (xhp hi hl r) (xoV o) := by
  refine x_meth2 (C := RX9) (ini := false) (L := [some (.ref 33)]) rfl (by decide) (fun h9 => by cases h9) (by decide) (Nat.le_of_ble_eq_true rfl) rfl ?_
  refine x_aload_n (pc' := 1) dX9_begin_0 rfl rfl ?_
  refine x_iconst (pc' := 2) (x := 0) dX9_begin_1 (by decide) rfl ?_
  refine x_puti (pc' := 5) dX9_begin_2 f_X9_22 (Or.inl rfl) (by decide) rfl rfl rfl ?_
  refine x_aload_n (pc' := 6) dX9_begin_5 rfl rfl ?_
  refine x_iconst (pc' := 7) (x := 0) dX9_begin_6 (by decide) rfl ?_
  refine x_puti (pc' := 10) dX9_begin_7 f_X9_26 (Or.inl rfl) (by decide) rfl rfl rfl ?_
  obtain rfl := Option.some.inj h
  exact x_vret dX9_begin_10 rfl rfl (Nat.le_of_ble_eq_true rfl) rfl
def F_X9_enterTurns_20 (v1 : Int32) (hi : Nat → Nat → Int32) (hl : Nat → Nat → Int64) (r : xRr) : Option (xSt) := xbI (F_X4_endOf v1 hi hl r) (fun w2 hi2 hl2 r2 => some ((xu hi2 33 4 (w2 + (1 : Int32))), hl2, r2))
set_option maxRecDepth 20000 in
set_option maxHeartbeats 2000000 in
theorem r_X9_enterTurns_20 (v1 : Int32) (hi : Nat → Nat → Int32) (hl : Nat → Nat → Int64) (r : xRr) (o : xSt) (h : F_X9_enterTurns_20 v1 hi hl r = some o) : xR (RX9, cX9_enterTurns, 2, false, 0) (2, 0, 0) z 0 0 20 [some (.ref 33), some (.int v1)] [] (xhp hi hl r) (xoV o) := by
  refine x_aload_n (pc' := 21) dX9_enterTurns_20 rfl rfl ?_
  refine x_aload_n (pc' := 22) dX9_enterTurns_21 rfl rfl ?_
  refine x_getr (pc' := 25) (t := 30) dX9_enterTurns_22 f_X9_18 (by decide) rfl rfl rfl rfl ?_
  refine x_iload_n (pc' := 26) dX9_enterTurns_25 rfl rfl ?_
  refine xg_bI h (fun w2 hi2 hl2 r2 e1 h => ?_)
  refine x_callV (pc' := 29) (S := [.ref 33]) (As := [.int v1]) (b' := (1, 0, 0)) dX9_enterTurns_26 l_X9_46 m_X4_endOf rfl rfl (show 30 < 122 by decide) rfl (Nat.le_of_ble_eq_true rfl) (Nat.le_of_ble_eq_true rfl) (Nat.le_of_ble_eq_true rfl) (Nat.le_of_ble_eq_true rfl) (r_X4_endOf _ _ _ _ _ e1) rfl ?_
  refine x_iconst (pc' := 30) (x := 1) dX9_enterTurns_29 (by decide) rfl ?_
  refine x_iadd (pc' := 31) dX9_enterTurns_30 rfl ?_
  refine x_puti (pc' := 34) dX9_enterTurns_31 f_X9_22 (Or.inl rfl) (by decide) rfl rfl rfl ?_
  obtain rfl := Option.some.inj h
  exact x_vret dX9_enterTurns_34 rfl rfl (Nat.le_of_ble_eq_true rfl) rfl
def F_X9_enterTurns (v1 : Int32) (hi : Nat → Nat → Int32) (hl : Nat → Nat → Int64) (r : xRr) : Option (xSt) := xbI (F_X4_part v1 (1 : Int32) hi hl r) (fun w2 hi2 hl2 r2 => if w2 = 0 then F_X9_enterTurns_20 v1 hi2 hl2 r2 else if (hi2 33 3) = (3 : Int32) then F_X9_enterTurns_20 v1 hi2 hl2 r2 else if xok (hi2 33 3) 3 = true then if xok ((xu hi2 34 (Int32.toNatClampNeg (hi2 33 3)) v1) 33 3) 3 = true then some ((xu (xu (xu (xu hi2 34 (Int32.toNatClampNeg (hi2 33 3)) v1) 35 (Int32.toNatClampNeg ((xu hi2 34 (Int32.toNatClampNeg (hi2 33 3)) v1) 33 3)) (0 : Int32)) 33 3 (((xu (xu hi2 34 (Int32.toNatClampNeg (hi2 33 3)) v1) 35 (Int32.toNatClampNeg ((xu hi2 34 (Int32.toNatClampNeg (hi2 33 3)) v1) 33 3)) (0 : Int32)) 33 3) + (1 : Int32))) 33 4 (v1 + (1 : Int32))), hl2, r2) else none else none)
set_option maxRecDepth 20000 in
set_option maxHeartbeats 2000000 in
theorem r_X9_enterTurns (v1 : Int32) (hi : Nat → Nat → Int32) (hl : Nat → Nat → Int64) (r : xRr) (o : xSt) (h : F_X9_enterTurns v1 hi hl r = some o) : xM yX9_enterTurns cX9_enterTurns 2 0 (2, 0, 0) z [.ref 33, .int v1] (xhp hi hl r) (xoV o) := by
  refine x_meth2 (C := RX9) (ini := false) (L := [some (.ref 33), some (.int v1)]) rfl (by decide) (fun h9 => by cases h9) (by decide) (Nat.le_of_ble_eq_true rfl) rfl ?_
  refine x_aload_n (pc' := 1) dX9_enterTurns_0 rfl rfl ?_
  refine x_getr (pc' := 4) (t := 30) dX9_enterTurns_1 f_X9_18 (by decide) rfl rfl rfl rfl ?_
  refine x_iload_n (pc' := 5) dX9_enterTurns_4 rfl rfl ?_
  refine x_iconst (pc' := 6) (x := 1) dX9_enterTurns_5 (by decide) rfl ?_
  refine xg_bI h (fun w2 hi2 hl2 r2 e1 h => ?_)
  refine x_callV (pc' := 9) (S := []) (As := [.int v1, .int (1 : Int32)]) (b' := (0, 0, 0)) dX9_enterTurns_6 l_X9_35 m_X4_part rfl rfl (show 30 < 122 by decide) rfl (Nat.le_of_ble_eq_true rfl) (Nat.le_of_ble_eq_true rfl) (Nat.le_of_ble_eq_true rfl) (Nat.le_of_ble_eq_true rfl) (r_X4_part _ _ _ _ _ _ e1) rfl ?_
  refine xg_ite h (fun g3 h => ?_) (fun g3 h => ?_)
  · refine x_if_eq (tgt := 20) (pc' := 12) dX9_enterTurns_9 (by decide) rfl (fun _ => ?_) (fun hn => absurd g3 hn)
    exact r_X9_enterTurns_20 _ _ _ _ _ h
  · refine x_if_eq (tgt := 20) (pc' := 12) dX9_enterTurns_9 (by decide) rfl (fun hn => absurd hn g3) (fun _ => ?_)
    refine x_aload_n (pc' := 13) dX9_enterTurns_12 rfl rfl ?_
    refine x_geti (pc' := 16) dX9_enterTurns_13 f_X9_26 (by decide) rfl rfl rfl ?_
    refine x_iconst (pc' := 17) (x := 3) dX9_enterTurns_16 (by decide) rfl ?_
    refine xg_ite h (fun g4 h => ?_) (fun g4 h => ?_)
    · refine x_icmp_ne (tgt := 35) (pc' := 20) dX9_enterTurns_17 (by decide) rfl (fun hn => absurd g4 hn) (fun _ => ?_)
      exact r_X9_enterTurns_20 _ _ _ _ _ h
    · refine x_icmp_ne (tgt := 35) (pc' := 20) dX9_enterTurns_17 (by decide) rfl (fun _ => ?_) (fun hn => absurd hn g4)
      refine x_aload_n (pc' := 36) dX9_enterTurns_35 rfl rfl ?_
      refine x_getr (pc' := 39) (t := 34) dX9_enterTurns_36 f_X9_9 (by decide) rfl rfl rfl rfl ?_
      refine x_aload_n (pc' := 40) dX9_enterTurns_39 rfl rfl ?_
      refine x_geti (pc' := 43) dX9_enterTurns_40 f_X9_26 (by decide) rfl rfl rfl ?_
      refine x_iload_n (pc' := 44) dX9_enterTurns_43 rfl rfl ?_
      refine xg_if h (fun g5 h => ?_)
      refine x_iast (pc' := 45) dX9_enterTurns_44 (by decide) rfl (xok_in g5) rfl ?_
      refine x_aload_n (pc' := 46) dX9_enterTurns_45 rfl rfl ?_
      refine x_getr (pc' := 49) (t := 35) dX9_enterTurns_46 f_X9_15 (by decide) rfl rfl rfl rfl ?_
      refine x_aload_n (pc' := 50) dX9_enterTurns_49 rfl rfl ?_
      refine x_geti (pc' := 53) dX9_enterTurns_50 f_X9_26 (by decide) rfl rfl rfl ?_
      refine x_iconst (pc' := 54) (x := 0) dX9_enterTurns_53 (by decide) rfl ?_
      refine xg_if h (fun g6 h => ?_)
      refine x_iast (pc' := 55) dX9_enterTurns_54 (by decide) rfl (xok_in g6) rfl ?_
      refine x_aload_n (pc' := 56) dX9_enterTurns_55 rfl rfl ?_
      refine x_dup (pc' := 57) dX9_enterTurns_56 rfl rfl ?_
      refine x_geti (pc' := 60) dX9_enterTurns_57 f_X9_26 (by decide) rfl rfl rfl ?_
      refine x_iconst (pc' := 61) (x := 1) dX9_enterTurns_60 (by decide) rfl ?_
      refine x_iadd (pc' := 62) dX9_enterTurns_61 rfl ?_
      refine x_puti (pc' := 65) dX9_enterTurns_62 f_X9_26 (Or.inl rfl) (by decide) rfl rfl rfl ?_
      refine x_aload_n (pc' := 66) dX9_enterTurns_65 rfl rfl ?_
      refine x_iload_n (pc' := 67) dX9_enterTurns_66 rfl rfl ?_
      refine x_iconst (pc' := 68) (x := 1) dX9_enterTurns_67 (by decide) rfl ?_
      refine x_iadd (pc' := 69) dX9_enterTurns_68 rfl ?_
      refine x_puti (pc' := 72) dX9_enterTurns_69 f_X9_22 (Or.inl rfl) (by decide) rfl rfl rfl ?_
      obtain rfl := Option.some.inj h
      exact x_vret dX9_enterTurns_72 rfl rfl (Nat.le_of_ble_eq_true rfl) rfl
def F_X9_endTurn (hi : Nat → Nat → Int32) (hl : Nat → Nat → Int64) (r : xRr) : Option (xSt) := if (hi 33 3) = 0 then some ((xu hi 33 4 ((hi 33 4) + (1 : Int32))), hl, r) else if xok ((hi 33 3) - (1 : Int32)) 3 = true then if xok (((xu hi 35 (Int32.toNatClampNeg ((hi 33 3) - (1 : Int32))) ((hi 35 (Int32.toNatClampNeg ((hi 33 3) - (1 : Int32)))) + (1 : Int32))) 33 3) - (1 : Int32)) 3 = true then xbI (F_X4_part ((xu hi 35 (Int32.toNatClampNeg ((hi 33 3) - (1 : Int32))) ((hi 35 (Int32.toNatClampNeg ((hi 33 3) - (1 : Int32)))) + (1 : Int32))) 34 (Int32.toNatClampNeg (((xu hi 35 (Int32.toNatClampNeg ((hi 33 3) - (1 : Int32))) ((hi 35 (Int32.toNatClampNeg ((hi 33 3) - (1 : Int32)))) + (1 : Int32))) 33 3) - (1 : Int32)))) (1 : Int32) (xu hi 35 (Int32.toNatClampNeg ((hi 33 3) - (1 : Int32))) ((hi 35 (Int32.toNatClampNeg ((hi 33 3) - (1 : Int32)))) + (1 : Int32))) hl r) (fun w5 hi5 hl5 r5 => if w5 ≤ ((xu hi 35 (Int32.toNatClampNeg ((hi 33 3) - (1 : Int32))) ((hi 35 (Int32.toNatClampNeg ((hi 33 3) - (1 : Int32)))) + (1 : Int32))) 35 (Int32.toNatClampNeg (((xu hi 35 (Int32.toNatClampNeg ((hi 33 3) - (1 : Int32))) ((hi 35 (Int32.toNatClampNeg ((hi 33 3) - (1 : Int32)))) + (1 : Int32))) 33 3) - (1 : Int32)))) then some ((xu (xu hi5 33 3 ((hi5 33 3) - (1 : Int32))) 33 4 (((xu hi5 33 3 ((hi5 33 3) - (1 : Int32))) 33 4) + (1 : Int32))), hl5, r5) else if xok ((hi5 33 3) - (1 : Int32)) 3 = true then some ((xu hi5 33 4 ((hi5 34 (Int32.toNatClampNeg ((hi5 33 3) - (1 : Int32)))) + (1 : Int32))), hl5, r5) else none) else none else none
set_option maxRecDepth 20000 in
set_option maxHeartbeats 2000000 in
theorem r_X9_endTurn (hi : Nat → Nat → Int32) (hl : Nat → Nat → Int64) (r : xRr) (o : xSt) (h : F_X9_endTurn hi hl r = some o) : xM yX9_endTurn cX9_endTurn 1 0 (1, 0, 0) z [.ref 33] (xhp hi hl r) (xoV o) := by
  refine x_meth2 (C := RX9) (ini := false) (L := [some (.ref 33)]) rfl (by decide) (fun h9 => by cases h9) (by decide) (Nat.le_of_ble_eq_true rfl) rfl ?_
  refine x_aload_n (pc' := 1) dX9_endTurn_0 rfl rfl ?_
  refine x_geti (pc' := 4) dX9_endTurn_1 f_X9_26 (by decide) rfl rfl rfl ?_
  refine xg_ite h (fun g1 h => ?_) (fun g1 h => ?_)
  · refine x_if_ne (tgt := 18) (pc' := 7) dX9_endTurn_4 (by decide) rfl (fun hn => absurd g1 hn) (fun _ => ?_)
    refine x_aload_n (pc' := 8) dX9_endTurn_7 rfl rfl ?_
    refine x_dup (pc' := 9) dX9_endTurn_8 rfl rfl ?_
    refine x_geti (pc' := 12) dX9_endTurn_9 f_X9_22 (by decide) rfl rfl rfl ?_
    refine x_iconst (pc' := 13) (x := 1) dX9_endTurn_12 (by decide) rfl ?_
    refine x_iadd (pc' := 14) dX9_endTurn_13 rfl ?_
    refine x_puti (pc' := 17) dX9_endTurn_14 f_X9_22 (Or.inl rfl) (by decide) rfl rfl rfl ?_
    obtain rfl := Option.some.inj h
    exact x_vret dX9_endTurn_17 rfl rfl (Nat.le_of_ble_eq_true rfl) rfl
  · refine x_if_ne (tgt := 18) (pc' := 7) dX9_endTurn_4 (by decide) rfl (fun _ => ?_) (fun hn => absurd hn g1)
    refine x_aload_n (pc' := 19) dX9_endTurn_18 rfl rfl ?_
    refine x_getr (pc' := 22) (t := 35) dX9_endTurn_19 f_X9_15 (by decide) rfl rfl rfl rfl ?_
    refine x_aload_n (pc' := 23) dX9_endTurn_22 rfl rfl ?_
    refine x_geti (pc' := 26) dX9_endTurn_23 f_X9_26 (by decide) rfl rfl rfl ?_
    refine x_iconst (pc' := 27) (x := 1) dX9_endTurn_26 (by decide) rfl ?_
    refine x_isub (pc' := 28) dX9_endTurn_27 rfl ?_
    refine x_dup2 (pc' := 29) dX9_endTurn_28 rfl rfl rfl ?_
    refine xg_if h (fun g2 h => ?_)
    refine x_iald (pc' := 30) dX9_endTurn_29 (by decide) rfl (xok_in g2) rfl ?_
    refine x_iconst (pc' := 31) (x := 1) dX9_endTurn_30 (by decide) rfl ?_
    refine x_iadd (pc' := 32) dX9_endTurn_31 rfl ?_
    refine x_iast (pc' := 33) dX9_endTurn_32 (by decide) rfl (xok_in g2) rfl ?_
    refine x_aload_n (pc' := 34) dX9_endTurn_33 rfl rfl ?_
    refine x_getr (pc' := 37) (t := 35) dX9_endTurn_34 f_X9_15 (by decide) rfl rfl rfl rfl ?_
    refine x_aload_n (pc' := 38) dX9_endTurn_37 rfl rfl ?_
    refine x_geti (pc' := 41) dX9_endTurn_38 f_X9_26 (by decide) rfl rfl rfl ?_
    refine x_iconst (pc' := 42) (x := 1) dX9_endTurn_41 (by decide) rfl ?_
    refine x_isub (pc' := 43) dX9_endTurn_42 rfl ?_
    refine xg_if h (fun g3 h => ?_)
    refine x_iald (pc' := 44) dX9_endTurn_43 (by decide) rfl (xok_in g3) rfl ?_
    refine x_aload_n (pc' := 45) dX9_endTurn_44 rfl rfl ?_
    refine x_getr (pc' := 48) (t := 30) dX9_endTurn_45 f_X9_18 (by decide) rfl rfl rfl rfl ?_
    refine x_aload_n (pc' := 49) dX9_endTurn_48 rfl rfl ?_
    refine x_getr (pc' := 52) (t := 34) dX9_endTurn_49 f_X9_9 (by decide) rfl rfl rfl rfl ?_
    refine x_aload_n (pc' := 53) dX9_endTurn_52 rfl rfl ?_
    refine x_geti (pc' := 56) dX9_endTurn_53 f_X9_26 (by decide) rfl rfl rfl ?_
    refine x_iconst (pc' := 57) (x := 1) dX9_endTurn_56 (by decide) rfl ?_
    refine x_isub (pc' := 58) dX9_endTurn_57 rfl ?_
    refine x_iald (pc' := 59) dX9_endTurn_58 (by decide) rfl (xok_in g3) rfl ?_
    refine x_iconst (pc' := 60) (x := 1) dX9_endTurn_59 (by decide) rfl ?_
    refine xg_bI h (fun w5 hi5 hl5 r5 e4 h => ?_)
    refine x_callV (pc' := 63) (S := [.int ((xu hi 35 (Int32.toNatClampNeg ((hi 33 3) - (1 : Int32))) ((hi 35 (Int32.toNatClampNeg ((hi 33 3) - (1 : Int32)))) + (1 : Int32))) 35 (Int32.toNatClampNeg (((xu hi 35 (Int32.toNatClampNeg ((hi 33 3) - (1 : Int32))) ((hi 35 (Int32.toNatClampNeg ((hi 33 3) - (1 : Int32)))) + (1 : Int32))) 33 3) - (1 : Int32))))]) (As := [.int ((xu hi 35 (Int32.toNatClampNeg ((hi 33 3) - (1 : Int32))) ((hi 35 (Int32.toNatClampNeg ((hi 33 3) - (1 : Int32)))) + (1 : Int32))) 34 (Int32.toNatClampNeg (((xu hi 35 (Int32.toNatClampNeg ((hi 33 3) - (1 : Int32))) ((hi 35 (Int32.toNatClampNeg ((hi 33 3) - (1 : Int32)))) + (1 : Int32))) 33 3) - (1 : Int32)))), .int (1 : Int32)]) (b' := (0, 0, 0)) dX9_endTurn_60 l_X9_35 m_X4_part rfl rfl (show 30 < 122 by decide) rfl (Nat.le_of_ble_eq_true rfl) (Nat.le_of_ble_eq_true rfl) (Nat.le_of_ble_eq_true rfl) (Nat.le_of_ble_eq_true rfl) (r_X4_part _ _ _ _ _ _ e4) rfl ?_
    refine xg_ite h (fun g6 h => ?_) (fun g6 h => ?_)
    · refine x_icmp_ge (tgt := 86) (pc' := 66) dX9_endTurn_63 (by decide) rfl (fun _ => ?_) (fun hn => absurd g6 hn)
      refine x_aload_n (pc' := 87) dX9_endTurn_86 rfl rfl ?_
      refine x_dup (pc' := 88) dX9_endTurn_87 rfl rfl ?_
      refine x_geti (pc' := 91) dX9_endTurn_88 f_X9_26 (by decide) rfl rfl rfl ?_
      refine x_iconst (pc' := 92) (x := 1) dX9_endTurn_91 (by decide) rfl ?_
      refine x_isub (pc' := 93) dX9_endTurn_92 rfl ?_
      refine x_puti (pc' := 96) dX9_endTurn_93 f_X9_26 (Or.inl rfl) (by decide) rfl rfl rfl ?_
      refine x_aload_n (pc' := 97) dX9_endTurn_96 rfl rfl ?_
      refine x_dup (pc' := 98) dX9_endTurn_97 rfl rfl ?_
      refine x_geti (pc' := 101) dX9_endTurn_98 f_X9_22 (by decide) rfl rfl rfl ?_
      refine x_iconst (pc' := 102) (x := 1) dX9_endTurn_101 (by decide) rfl ?_
      refine x_iadd (pc' := 103) dX9_endTurn_102 rfl ?_
      refine x_puti (pc' := 106) dX9_endTurn_103 f_X9_22 (Or.inl rfl) (by decide) rfl rfl rfl ?_
      obtain rfl := Option.some.inj h
      exact x_vret dX9_endTurn_106 rfl rfl (Nat.le_of_ble_eq_true rfl) rfl
    · refine x_icmp_ge (tgt := 86) (pc' := 66) dX9_endTurn_63 (by decide) rfl (fun hn => absurd hn g6) (fun _ => ?_)
      refine x_aload_n (pc' := 67) dX9_endTurn_66 rfl rfl ?_
      refine x_aload_n (pc' := 68) dX9_endTurn_67 rfl rfl ?_
      refine x_getr (pc' := 71) (t := 34) dX9_endTurn_68 f_X9_9 (by decide) rfl rfl rfl rfl ?_
      refine x_aload_n (pc' := 72) dX9_endTurn_71 rfl rfl ?_
      refine x_geti (pc' := 75) dX9_endTurn_72 f_X9_26 (by decide) rfl rfl rfl ?_
      refine x_iconst (pc' := 76) (x := 1) dX9_endTurn_75 (by decide) rfl ?_
      refine x_isub (pc' := 77) dX9_endTurn_76 rfl ?_
      refine xg_if h (fun g7 h => ?_)
      refine x_iald (pc' := 78) dX9_endTurn_77 (by decide) rfl (xok_in g7) rfl ?_
      refine x_iconst (pc' := 79) (x := 1) dX9_endTurn_78 (by decide) rfl ?_
      refine x_iadd (pc' := 80) dX9_endTurn_79 rfl ?_
      refine x_puti (pc' := 83) dX9_endTurn_80 f_X9_22 (Or.inl rfl) (by decide) rfl rfl rfl ?_
      refine x_goto (tgt := 106) dX9_endTurn_83 (by decide) ?_
      obtain rfl := Option.some.inj h
      exact x_vret dX9_endTurn_106 rfl rfl (Nat.le_of_ble_eq_true rfl) rfl
def F_X9_nextStep_71 (K2 : Int32 → (Nat → Nat → Int32) → (Nat → Nat → Int64) → xRr → Option (Int32 × xSt)) (v1 : Int32) (hi : Nat → Nat → Int32) (hl : Nat → Nat → Int64) (r : xRr) : Option (Int32 × xSt) := K2 (v1 + (1)) hi hl r
set_option maxRecDepth 20000 in
set_option maxHeartbeats 2000000 in
theorem r_X9_nextStep_71 (K2 : Int32 → (Nat → Nat → Int32) → (Nat → Nat → Int64) → xRr → Option (Int32 × xSt)) (hK2 : ∀ (v1 : Int32) (d2 : Option Value) (d3 : Option Value) (hi : Nat → Nat → Int32) (hl : Nat → Nat → Int64) (r : xRr) (o : Int32 × xSt), K2 v1 hi hl r = some o → xR (RX9, cX9_nextStep, 4, false, 1) (3, 0, 0) z 0 0 2 [some (.ref 33), some (.int v1), d2, d3] [] (xhp hi hl r) (xoI o)) (v1 : Int32) (d2 : Option Value) (d3 : Option Value) (hi : Nat → Nat → Int32) (hl : Nat → Nat → Int64) (r : xRr) (o : Int32 × xSt) (h : F_X9_nextStep_71 K2 v1 hi hl r = some o) : xR (RX9, cX9_nextStep, 4, false, 1) (3, 0, 0) z 0 0 71 [some (.ref 33), some (.int v1), d2, d3] [] (xhp hi hl r) (xoI o) := by
  refine x_iinc (pc' := 74) (v := (v1 + (1))) (L' := [some (.ref 33), some (.int (v1 + (1))), d2, d3]) dX9_nextStep_71 rfl rfl (Nat.le_of_ble_eq_true rfl) rfl rfl ?_
  refine x_goto (tgt := 2) dX9_nextStep_74 (by decide) ?_
  exact hK2 _ _ _ _ _ _ _ h
def F_X9_nextStep_2 : Nat → Int32 → (Nat → Nat → Int32) → (Nat → Nat → Int64) → xRr → Option (Int32 × xSt)
  | 0, _, _, _, _ => none
  | n + 1, v1, hi, hl, r => if (1000000 : Int32) ≤ v1 then some (((-20) : Int32), hi, hl, r) else if (hi 30 2) ≤ (hi 33 4) then some (((-20) : Int32), hi, hl, r) else xbI (F_X4_part (hi 33 4) (0 : Int32) hi hl r) (fun w4 hi4 hl4 r4 => if (5 : Int32) ≤ w4 then if w4 = (5 : Int32) then xbV (F_X9_enterTurns (hi 33 4) hi4 hl4 r4) (fun hi8 hl8 r8 => F_X9_nextStep_71 (F_X9_nextStep_2 n) v1 hi8 hl8 r8) else xbV (F_X9_endTurn hi4 hl4 r4) (fun hi10 hl10 r10 => F_X9_nextStep_71 (F_X9_nextStep_2 n) v1 hi10 hl10 r10) else some ((hi 33 4), (xu hi4 33 4 ((hi4 33 4) + (1 : Int32))), hl4, r4))
set_option maxRecDepth 20000 in
set_option maxHeartbeats 2000000 in
theorem r_X9_nextStep_2 : ∀ (n : Nat) (v1 : Int32) (d2 : Option Value) (d3 : Option Value) (hi : Nat → Nat → Int32) (hl : Nat → Nat → Int64) (r : xRr) (o : Int32 × xSt), F_X9_nextStep_2 n v1 hi hl r = some o → xR (RX9, cX9_nextStep, 4, false, 1) (3, 0, 0) z 0 0 2 [some (.ref 33), some (.int v1), d2, d3] [] (xhp hi hl r) (xoI o) := by
  intro n
  induction n with
  | zero =>
    intro v1 d2 d3 hi hl r o h
    have h : none = some o := h
    cases h
  | succ n ih =>
    intro v1 d2 d3 hi hl r o h
    refine x_iload_n (pc' := 3) dX9_nextStep_2 rfl rfl ?_
    refine x_ldc (pc' := 5) dX9_nextStep_3 k_X9_29 rfl ?_
    refine xg_ite h (fun g1 h => ?_) (fun g1 h => ?_)
    · refine x_icmp_ge (tgt := 77) (pc' := 8) dX9_nextStep_5 (by decide) rfl (fun _ => ?_) (fun hn => absurd g1 hn)
      refine x_bipush (pc' := 79) (x := (-20)) dX9_nextStep_77 (by decide) rfl ?_
      obtain rfl := Option.some.inj h
      exact x_iret dX9_nextStep_79 rfl rfl (Nat.le_of_ble_eq_true rfl) rfl
    · refine x_icmp_ge (tgt := 77) (pc' := 8) dX9_nextStep_5 (by decide) rfl (fun hn => absurd hn g1) (fun _ => ?_)
      refine x_aload_n (pc' := 9) dX9_nextStep_8 rfl rfl ?_
      refine x_geti (pc' := 12) dX9_nextStep_9 f_X9_22 (by decide) rfl rfl rfl ?_
      refine x_aload_n (pc' := 13) dX9_nextStep_12 rfl rfl ?_
      refine x_getr (pc' := 16) (t := 30) dX9_nextStep_13 f_X9_18 (by decide) rfl rfl rfl rfl ?_
      refine x_geti (pc' := 19) dX9_nextStep_16 f_X9_30 (by decide) rfl rfl rfl ?_
      refine xg_ite h (fun g2 h => ?_) (fun g2 h => ?_)
      · refine x_icmp_ge (tgt := 77) (pc' := 22) dX9_nextStep_19 (by decide) rfl (fun _ => ?_) (fun hn => absurd g2 hn)
        refine x_bipush (pc' := 79) (x := (-20)) dX9_nextStep_77 (by decide) rfl ?_
        obtain rfl := Option.some.inj h
        exact x_iret dX9_nextStep_79 rfl rfl (Nat.le_of_ble_eq_true rfl) rfl
      · refine x_icmp_ge (tgt := 77) (pc' := 22) dX9_nextStep_19 (by decide) rfl (fun hn => absurd hn g2) (fun _ => ?_)
        refine x_aload_n (pc' := 23) dX9_nextStep_22 rfl rfl ?_
        refine x_geti (pc' := 26) dX9_nextStep_23 f_X9_22 (by decide) rfl rfl rfl ?_
        refine x_istore_n (pc' := 27) (L' := [some (.ref 33), some (.int v1), some (.int (hi 33 4)), d3]) dX9_nextStep_26 (Nat.le_of_ble_eq_true rfl) rfl rfl ?_
        refine x_aload_n (pc' := 28) dX9_nextStep_27 rfl rfl ?_
        refine x_getr (pc' := 31) (t := 30) dX9_nextStep_28 f_X9_18 (by decide) rfl rfl rfl rfl ?_
        refine x_iload_n (pc' := 32) dX9_nextStep_31 rfl rfl ?_
        refine x_iconst (pc' := 33) (x := 0) dX9_nextStep_32 (by decide) rfl ?_
        refine xg_bI h (fun w4 hi4 hl4 r4 e3 h => ?_)
        refine x_callV (pc' := 36) (S := []) (As := [.int (hi 33 4), .int (0 : Int32)]) (b' := (0, 0, 0)) dX9_nextStep_33 l_X9_35 m_X4_part rfl rfl (show 30 < 122 by decide) rfl (Nat.le_of_ble_eq_true rfl) (Nat.le_of_ble_eq_true rfl) (Nat.le_of_ble_eq_true rfl) (Nat.le_of_ble_eq_true rfl) (r_X4_part _ _ _ _ _ _ e3) rfl ?_
        refine x_istore_n (pc' := 37) (L' := [some (.ref 33), some (.int v1), some (.int (hi 33 4)), some (.int w4)]) dX9_nextStep_36 (Nat.le_of_ble_eq_true rfl) rfl rfl ?_
        refine x_iload_n (pc' := 38) dX9_nextStep_37 rfl rfl ?_
        refine x_iconst (pc' := 39) (x := 5) dX9_nextStep_38 (by decide) rfl ?_
        refine xg_ite h (fun g5 h => ?_) (fun g5 h => ?_)
        · refine x_icmp_ge (tgt := 54) (pc' := 42) dX9_nextStep_39 (by decide) rfl (fun _ => ?_) (fun hn => absurd g5 hn)
          refine x_iload_n (pc' := 55) dX9_nextStep_54 rfl rfl ?_
          refine x_iconst (pc' := 56) (x := 5) dX9_nextStep_55 (by decide) rfl ?_
          refine xg_ite h (fun g6 h => ?_) (fun g6 h => ?_)
          · refine x_icmp_ne (tgt := 67) (pc' := 59) dX9_nextStep_56 (by decide) rfl (fun hn => absurd g6 hn) (fun _ => ?_)
            refine x_aload_n (pc' := 60) dX9_nextStep_59 rfl rfl ?_
            refine x_iload_n (pc' := 61) dX9_nextStep_60 rfl rfl ?_
            refine xg_bV h (fun hi8 hl8 r8 e7 h => ?_)
            refine x_callV (pc' := 64) (S := []) (As := [.int (hi 33 4)]) (b' := (2, 0, 0)) dX9_nextStep_61 l_X9_39 m_X9_enterTurns rfl rfl (show 33 < 122 by decide) rfl (Nat.le_of_ble_eq_true rfl) (Nat.le_of_ble_eq_true rfl) (Nat.le_of_ble_eq_true rfl) (Nat.le_of_ble_eq_true rfl) (r_X9_enterTurns _ _ _ _ _ e7) rfl ?_
            refine x_goto (tgt := 71) dX9_nextStep_64 (by decide) ?_
            exact r_X9_nextStep_71 (F_X9_nextStep_2 n) ih _ _ _ _ _ _ _ h
          · refine x_icmp_ne (tgt := 67) (pc' := 59) dX9_nextStep_56 (by decide) rfl (fun _ => ?_) (fun hn => absurd hn g6)
            refine x_aload_n (pc' := 68) dX9_nextStep_67 rfl rfl ?_
            refine xg_bV h (fun hi10 hl10 r10 e9 h => ?_)
            refine x_callV (pc' := 71) (S := []) (As := []) (b' := (1, 0, 0)) dX9_nextStep_68 l_X9_43 m_X9_endTurn rfl rfl (show 33 < 122 by decide) rfl (Nat.le_of_ble_eq_true rfl) (Nat.le_of_ble_eq_true rfl) (Nat.le_of_ble_eq_true rfl) (Nat.le_of_ble_eq_true rfl) (r_X9_endTurn _ _ _ _ e9) rfl ?_
            exact r_X9_nextStep_71 (F_X9_nextStep_2 n) ih _ _ _ _ _ _ _ h
        · refine x_icmp_ge (tgt := 54) (pc' := 42) dX9_nextStep_39 (by decide) rfl (fun hn => absurd hn g5) (fun _ => ?_)
          refine x_aload_n (pc' := 43) dX9_nextStep_42 rfl rfl ?_
          refine x_dup (pc' := 44) dX9_nextStep_43 rfl rfl ?_
          refine x_geti (pc' := 47) dX9_nextStep_44 f_X9_22 (by decide) rfl rfl rfl ?_
          refine x_iconst (pc' := 48) (x := 1) dX9_nextStep_47 (by decide) rfl ?_
          refine x_iadd (pc' := 49) dX9_nextStep_48 rfl ?_
          refine x_puti (pc' := 52) dX9_nextStep_49 f_X9_22 (Or.inl rfl) (by decide) rfl rfl rfl ?_
          refine x_iload_n (pc' := 53) dX9_nextStep_52 rfl rfl ?_
          obtain rfl := Option.some.inj h
          exact x_iret dX9_nextStep_53 rfl rfl (Nat.le_of_ble_eq_true rfl) rfl
def F_X9_nextStep (hi : Nat → Nat → Int32) (hl : Nat → Nat → Int64) (r : xRr) : Option (Int32 × xSt) := F_X9_nextStep_2 1000000 (0 : Int32) hi hl r
set_option maxRecDepth 20000 in
set_option maxHeartbeats 2000000 in
theorem r_X9_nextStep (hi : Nat → Nat → Int32) (hl : Nat → Nat → Int64) (r : xRr) (o : Int32 × xSt) (h : F_X9_nextStep hi hl r = some o) : xM yX9_nextStep cX9_nextStep 4 1 (3, 0, 0) z [.ref 33] (xhp hi hl r) (xoI o) := by
  refine x_meth2 (C := RX9) (ini := false) (L := [some (.ref 33), none, none, none]) rfl (by decide) (fun h9 => by cases h9) (by decide) (Nat.le_of_ble_eq_true rfl) rfl ?_
  refine x_iconst (pc' := 1) (x := 0) dX9_nextStep_0 (by decide) rfl ?_
  refine x_istore_n (pc' := 2) (L' := [some (.ref 33), some (.int (0 : Int32)), none, none]) dX9_nextStep_1 (Nat.le_of_ble_eq_true rfl) rfl rfl ?_
  exact r_X9_nextStep_2 1000000 _ _ _ _ _ _ _ h
def F_X9_place (v1 : Int32) (v2 : Int32) (hi : Nat → Nat → Int32) (hl : Nat → Nat → Int64) (r : xRr) : Option (Int32 × xSt) := xbI (F_X4_part v1 v2 hi hl r) (fun w2 hi2 hl2 r2 => if (12 : Int32) ≤ w2 then if (((hi2 33 3) - (1 : Int32)) - (w2 - (12 : Int32))) < 0 then some ((0 : Int32), hi2, hl2, r2) else if xok (((hi2 33 3) - (1 : Int32)) - (w2 - (12 : Int32))) 3 = true then some ((hi2 35 (Int32.toNatClampNeg (((hi2 33 3) - (1 : Int32)) - (w2 - (12 : Int32))))), hi2, hl2, r2) else none else some (w2, hi2, hl2, r2))
set_option maxRecDepth 20000 in
set_option maxHeartbeats 2000000 in
theorem r_X9_place (v1 : Int32) (v2 : Int32) (hi : Nat → Nat → Int32) (hl : Nat → Nat → Int64) (r : xRr) (o : Int32 × xSt) (h : F_X9_place v1 v2 hi hl r = some o) : xM yX9_place cX9_place 5 1 (1, 0, 0) z [.ref 33, .int v1, .int v2] (xhp hi hl r) (xoI o) := by
  refine x_meth2 (C := RX9) (ini := false) (L := [some (.ref 33), some (.int v1), some (.int v2), none, none]) rfl (by decide) (fun h9 => by cases h9) (by decide) (Nat.le_of_ble_eq_true rfl) rfl ?_
  refine x_aload_n (pc' := 1) dX9_place_0 rfl rfl ?_
  refine x_getr (pc' := 4) (t := 30) dX9_place_1 f_X9_18 (by decide) rfl rfl rfl rfl ?_
  refine x_iload_n (pc' := 5) dX9_place_4 rfl rfl ?_
  refine x_iload_n (pc' := 6) dX9_place_5 rfl rfl ?_
  refine xg_bI h (fun w2 hi2 hl2 r2 e1 h => ?_)
  refine x_callV (pc' := 9) (S := []) (As := [.int v1, .int v2]) (b' := (0, 0, 0)) dX9_place_6 l_X9_35 m_X4_part rfl rfl (show 30 < 122 by decide) rfl (Nat.le_of_ble_eq_true rfl) (Nat.le_of_ble_eq_true rfl) (Nat.le_of_ble_eq_true rfl) (Nat.le_of_ble_eq_true rfl) (r_X4_part _ _ _ _ _ _ e1) rfl ?_
  refine x_istore_n (pc' := 10) (L' := [some (.ref 33), some (.int v1), some (.int v2), some (.int w2), none]) dX9_place_9 (Nat.le_of_ble_eq_true rfl) rfl rfl ?_
  refine x_iload_n (pc' := 11) dX9_place_10 rfl rfl ?_
  refine x_bipush (pc' := 13) (x := 12) dX9_place_11 (by decide) rfl ?_
  refine xg_ite h (fun g3 h => ?_) (fun g3 h => ?_)
  · refine x_icmp_ge (tgt := 18) (pc' := 16) dX9_place_13 (by decide) rfl (fun _ => ?_) (fun hn => absurd g3 hn)
    refine x_aload_n (pc' := 19) dX9_place_18 rfl rfl ?_
    refine x_geti (pc' := 22) dX9_place_19 f_X9_26 (by decide) rfl rfl rfl ?_
    refine x_iconst (pc' := 23) (x := 1) dX9_place_22 (by decide) rfl ?_
    refine x_isub (pc' := 24) dX9_place_23 rfl ?_
    refine x_iload_n (pc' := 25) dX9_place_24 rfl rfl ?_
    refine x_bipush (pc' := 27) (x := 12) dX9_place_25 (by decide) rfl ?_
    refine x_isub (pc' := 28) dX9_place_27 rfl ?_
    refine x_isub (pc' := 29) dX9_place_28 rfl ?_
    refine x_istore (pc' := 31) (L' := [some (.ref 33), some (.int v1), some (.int v2), some (.int w2), some (.int (((hi2 33 3) - (1 : Int32)) - (w2 - (12 : Int32))))]) dX9_place_29 (Nat.le_of_ble_eq_true rfl) rfl rfl ?_
    refine x_iload (pc' := 33) dX9_place_31 rfl rfl ?_
    refine xg_ite h (fun g4 h => ?_) (fun g4 h => ?_)
    · refine x_if_lt (tgt := 46) (pc' := 36) dX9_place_33 (by decide) rfl (fun _ => ?_) (fun hn => absurd g4 hn)
      refine x_iconst (pc' := 47) (x := 0) dX9_place_46 (by decide) rfl ?_
      obtain rfl := Option.some.inj h
      exact x_iret dX9_place_47 rfl rfl (Nat.le_of_ble_eq_true rfl) rfl
    · refine x_if_lt (tgt := 46) (pc' := 36) dX9_place_33 (by decide) rfl (fun hn => absurd hn g4) (fun _ => ?_)
      refine x_aload_n (pc' := 37) dX9_place_36 rfl rfl ?_
      refine x_getr (pc' := 40) (t := 35) dX9_place_37 f_X9_15 (by decide) rfl rfl rfl rfl ?_
      refine x_iload (pc' := 42) dX9_place_40 rfl rfl ?_
      refine xg_if h (fun g5 h => ?_)
      refine x_iald (pc' := 43) dX9_place_42 (by decide) rfl (xok_in g5) rfl ?_
      refine x_goto (tgt := 47) dX9_place_43 (by decide) ?_
      obtain rfl := Option.some.inj h
      exact x_iret dX9_place_47 rfl rfl (Nat.le_of_ble_eq_true rfl) rfl
  · refine x_icmp_ge (tgt := 18) (pc' := 16) dX9_place_13 (by decide) rfl (fun hn => absurd hn g3) (fun _ => ?_)
    refine x_iload_n (pc' := 17) dX9_place_16 rfl rfl ?_
    obtain rfl := Option.some.inj h
    exact x_iret dX9_place_17 rfl rfl (Nat.le_of_ble_eq_true rfl) rfl
def F_X9_leave (hi : Nat → Nat → Int32) (hl : Nat → Nat → Int64) (r : xRr) : Option (xSt) := if (hi 33 3) = 0 then some ((xu hi 33 4 (hi 30 2)), hl, r) else if xok ((xu hi 33 3 ((hi 33 3) - (1 : Int32))) 33 3) 3 = true then xbI (F_X4_endOf ((xu hi 33 3 ((hi 33 3) - (1 : Int32))) 34 (Int32.toNatClampNeg ((xu hi 33 3 ((hi 33 3) - (1 : Int32))) 33 3))) (xu hi 33 3 ((hi 33 3) - (1 : Int32))) hl r) (fun w4 hi4 hl4 r4 => some ((xu hi4 33 4 (w4 + (1 : Int32))), hl4, r4)) else none
set_option maxRecDepth 20000 in
set_option maxHeartbeats 2000000 in
theorem r_X9_leave (hi : Nat → Nat → Int32) (hl : Nat → Nat → Int64) (r : xRr) (o : xSt) (h : F_X9_leave hi hl r = some o) : xM yX9_leave cX9_leave 1 0 (2, 0, 0) z [.ref 33] (xhp hi hl r) (xoV o) := by
  refine x_meth2 (C := RX9) (ini := false) (L := [some (.ref 33)]) rfl (by decide) (fun h9 => by cases h9) (by decide) (Nat.le_of_ble_eq_true rfl) rfl ?_
  refine x_aload_n (pc' := 1) dX9_leave_0 rfl rfl ?_
  refine x_geti (pc' := 4) dX9_leave_1 f_X9_26 (by decide) rfl rfl rfl ?_
  refine xg_ite h (fun g1 h => ?_) (fun g1 h => ?_)
  · refine x_if_ne (tgt := 19) (pc' := 7) dX9_leave_4 (by decide) rfl (fun hn => absurd g1 hn) (fun _ => ?_)
    refine x_aload_n (pc' := 8) dX9_leave_7 rfl rfl ?_
    refine x_aload_n (pc' := 9) dX9_leave_8 rfl rfl ?_
    refine x_getr (pc' := 12) (t := 30) dX9_leave_9 f_X9_18 (by decide) rfl rfl rfl rfl ?_
    refine x_geti (pc' := 15) dX9_leave_12 f_X9_30 (by decide) rfl rfl rfl ?_
    refine x_puti (pc' := 18) dX9_leave_15 f_X9_22 (Or.inl rfl) (by decide) rfl rfl rfl ?_
    obtain rfl := Option.some.inj h
    exact x_vret dX9_leave_18 rfl rfl (Nat.le_of_ble_eq_true rfl) rfl
  · refine x_if_ne (tgt := 19) (pc' := 7) dX9_leave_4 (by decide) rfl (fun _ => ?_) (fun hn => absurd hn g1)
    refine x_aload_n (pc' := 20) dX9_leave_19 rfl rfl ?_
    refine x_dup (pc' := 21) dX9_leave_20 rfl rfl ?_
    refine x_geti (pc' := 24) dX9_leave_21 f_X9_26 (by decide) rfl rfl rfl ?_
    refine x_iconst (pc' := 25) (x := 1) dX9_leave_24 (by decide) rfl ?_
    refine x_isub (pc' := 26) dX9_leave_25 rfl ?_
    refine x_puti (pc' := 29) dX9_leave_26 f_X9_26 (Or.inl rfl) (by decide) rfl rfl rfl ?_
    refine x_aload_n (pc' := 30) dX9_leave_29 rfl rfl ?_
    refine x_aload_n (pc' := 31) dX9_leave_30 rfl rfl ?_
    refine x_getr (pc' := 34) (t := 30) dX9_leave_31 f_X9_18 (by decide) rfl rfl rfl rfl ?_
    refine x_aload_n (pc' := 35) dX9_leave_34 rfl rfl ?_
    refine x_getr (pc' := 38) (t := 34) dX9_leave_35 f_X9_9 (by decide) rfl rfl rfl rfl ?_
    refine x_aload_n (pc' := 39) dX9_leave_38 rfl rfl ?_
    refine x_geti (pc' := 42) dX9_leave_39 f_X9_26 (by decide) rfl rfl rfl ?_
    refine xg_if h (fun g2 h => ?_)
    refine x_iald (pc' := 43) dX9_leave_42 (by decide) rfl (xok_in g2) rfl ?_
    refine xg_bI h (fun w4 hi4 hl4 r4 e3 h => ?_)
    refine x_callV (pc' := 46) (S := [.ref 33]) (As := [.int ((xu hi 33 3 ((hi 33 3) - (1 : Int32))) 34 (Int32.toNatClampNeg ((xu hi 33 3 ((hi 33 3) - (1 : Int32))) 33 3)))]) (b' := (1, 0, 0)) dX9_leave_43 l_X9_46 m_X4_endOf rfl rfl (show 30 < 122 by decide) rfl (Nat.le_of_ble_eq_true rfl) (Nat.le_of_ble_eq_true rfl) (Nat.le_of_ble_eq_true rfl) (Nat.le_of_ble_eq_true rfl) (r_X4_endOf _ _ _ _ _ e3) rfl ?_
    refine x_iconst (pc' := 47) (x := 1) dX9_leave_46 (by decide) rfl ?_
    refine x_iadd (pc' := 48) dX9_leave_47 rfl ?_
    refine x_puti (pc' := 51) dX9_leave_48 f_X9_22 (Or.inl rfl) (by decide) rfl rfl rfl ?_
    obtain rfl := Option.some.inj h
    exact x_vret dX9_leave_51 rfl rfl (Nat.le_of_ble_eq_true rfl) rfl
def F_X10_touches_25 (hi : Nat → Nat → Int32) (hl : Nat → Nat → Int64) (r : xRr) : Option (Int32 × xSt) := some ((1 : Int32), hi, hl, r)
set_option maxRecDepth 20000 in
set_option maxHeartbeats 2000000 in
theorem r_X10_touches_25 (d1 : Option Value) (d2 : Option Value) (hi : Nat → Nat → Int32) (hl : Nat → Nat → Int64) (r : xRr) (o : Int32 × xSt) (h : F_X10_touches_25 hi hl r = some o) : xR (RX10, cX10_touches, 3, false, 3) (0, 0, 0) z 0 0 25 [some (.ref 36), d1, d2] [] (xhp hi hl r) (xoI o) := by
  refine x_iconst (pc' := 26) (x := 1) dX10_touches_25 (by decide) rfl ?_
  refine x_goto (tgt := 30) dX10_touches_26 (by decide) ?_
  obtain rfl := Option.some.inj h
  exact x_zret dX10_touches_30 rfl (Or.inr rfl) rfl (Nat.le_of_ble_eq_true rfl) rfl
def F_X10_touches (v1 : Int32) (v2 : Int32) (hi : Nat → Nat → Int32) (hl : Nat → Nat → Int64) (r : xRr) : Option (Int32 × xSt) := if v2 = ((-1) : Int32) then some ((0 : Int32), hi, hl, r) else if xok v1 16 = true then if (hi 37 (Int32.toNatClampNeg v1)) = v2 then F_X10_touches_25 hi hl r else if (hi 38 (Int32.toNatClampNeg v1)) = v2 then F_X10_touches_25 hi hl r else some ((0 : Int32), hi, hl, r) else none
set_option maxRecDepth 20000 in
set_option maxHeartbeats 2000000 in
theorem r_X10_touches (v1 : Int32) (v2 : Int32) (hi : Nat → Nat → Int32) (hl : Nat → Nat → Int64) (r : xRr) (o : Int32 × xSt) (h : F_X10_touches v1 v2 hi hl r = some o) : xM yX10_touches cX10_touches 3 3 (0, 0, 0) z [.ref 36, .int v1, .int v2] (xhp hi hl r) (xoI o) := by
  refine x_meth2 (C := RX10) (ini := false) (L := [some (.ref 36), some (.int v1), some (.int v2)]) rfl (by decide) (fun h9 => by cases h9) (by decide) (Nat.le_of_ble_eq_true rfl) rfl ?_
  refine x_iload_n (pc' := 1) dX10_touches_0 rfl rfl ?_
  refine x_iconst (pc' := 2) (x := (-1)) dX10_touches_1 (by decide) rfl ?_
  refine xg_ite h (fun g1 h => ?_) (fun g1 h => ?_)
  · refine x_icmp_eq (tgt := 29) (pc' := 5) dX10_touches_2 (by decide) rfl (fun _ => ?_) (fun hn => absurd g1 hn)
    refine x_iconst (pc' := 30) (x := 0) dX10_touches_29 (by decide) rfl ?_
    obtain rfl := Option.some.inj h
    exact x_zret dX10_touches_30 rfl (Or.inl rfl) rfl (Nat.le_of_ble_eq_true rfl) rfl
  · refine x_icmp_eq (tgt := 29) (pc' := 5) dX10_touches_2 (by decide) rfl (fun hn => absurd hn g1) (fun _ => ?_)
    refine x_aload_n (pc' := 6) dX10_touches_5 rfl rfl ?_
    refine x_getr (pc' := 9) (t := 37) dX10_touches_6 f_X10_9 (by decide) rfl rfl rfl rfl ?_
    refine x_iload_n (pc' := 10) dX10_touches_9 rfl rfl ?_
    refine xg_if h (fun g2 h => ?_)
    refine x_iald (pc' := 11) dX10_touches_10 (by decide) rfl (xok_in g2) rfl ?_
    refine x_iload_n (pc' := 12) dX10_touches_11 rfl rfl ?_
    refine xg_ite h (fun g3 h => ?_) (fun g3 h => ?_)
    · refine x_icmp_eq (tgt := 25) (pc' := 15) dX10_touches_12 (by decide) rfl (fun _ => ?_) (fun hn => absurd g3 hn)
      exact r_X10_touches_25 _ _ _ _ _ _ h
    · refine x_icmp_eq (tgt := 25) (pc' := 15) dX10_touches_12 (by decide) rfl (fun hn => absurd hn g3) (fun _ => ?_)
      refine x_aload_n (pc' := 16) dX10_touches_15 rfl rfl ?_
      refine x_getr (pc' := 19) (t := 38) dX10_touches_16 f_X10_15 (by decide) rfl rfl rfl rfl ?_
      refine x_iload_n (pc' := 20) dX10_touches_19 rfl rfl ?_
      refine x_iald (pc' := 21) dX10_touches_20 (by decide) rfl (xok_in g2) rfl ?_
      refine x_iload_n (pc' := 22) dX10_touches_21 rfl rfl ?_
      refine xg_ite h (fun g4 h => ?_) (fun g4 h => ?_)
      · refine x_icmp_ne (tgt := 29) (pc' := 25) dX10_touches_22 (by decide) rfl (fun hn => absurd g4 hn) (fun _ => ?_)
        exact r_X10_touches_25 _ _ _ _ _ _ h
      · refine x_icmp_ne (tgt := 29) (pc' := 25) dX10_touches_22 (by decide) rfl (fun _ => ?_) (fun hn => absurd hn g4)
        refine x_iconst (pc' := 30) (x := 0) dX10_touches_29 (by decide) rfl ?_
        obtain rfl := Option.some.inj h
        exact x_zret dX10_touches_30 rfl (Or.inl rfl) rfl (Nat.le_of_ble_eq_true rfl) rfl
def F_X10_changes_41 (hi : Nat → Nat → Int32) (hl : Nat → Nat → Int64) (r : xRr) : Option (Int32 × xSt) := some ((1 : Int32), hi, hl, r)
set_option maxRecDepth 20000 in
set_option maxHeartbeats 2000000 in
theorem r_X10_changes_41 (d1 : Option Value) (d2 : Option Value) (hi : Nat → Nat → Int32) (hl : Nat → Nat → Int64) (r : xRr) (o : Int32 × xSt) (h : F_X10_changes_41 hi hl r = some o) : xR (RX10, cX10_changes, 3, false, 3) (1, 0, 0) z 0 0 41 [some (.ref 36), d1, d2] [] (xhp hi hl r) (xoI o) := by
  refine x_iconst (pc' := 42) (x := 1) dX10_changes_41 (by decide) rfl ?_
  refine x_goto (tgt := 46) dX10_changes_42 (by decide) ?_
  obtain rfl := Option.some.inj h
  exact x_zret dX10_changes_46 rfl (Or.inr rfl) rfl (Nat.le_of_ble_eq_true rfl) rfl
def F_X10_changes (v1 : Int32) (v2 : Int32) (hi : Nat → Nat → Int32) (hl : Nat → Nat → Int64) (r : xRr) : Option (Int32 × xSt) := if xok v1 16 = true then xbI (F_X10_touches v2 (hi 38 (Int32.toNatClampNeg v1)) hi hl r) (fun w3 hi3 hl3 r3 => if w3 = 0 then xbI (F_X4_part v1 (0 : Int32) hi3 hl3 r3) (fun w6 hi6 hl6 r6 => if w6 = (4 : Int32) then xbI (F_X10_touches v2 (hi6 37 (Int32.toNatClampNeg v1)) hi6 hl6 r6) (fun w9 hi9 hl9 r9 => if w9 = 0 then some ((0 : Int32), hi9, hl9, r9) else F_X10_changes_41 hi9 hl9 r9) else some ((0 : Int32), hi6, hl6, r6)) else F_X10_changes_41 hi3 hl3 r3) else none
set_option maxRecDepth 20000 in
set_option maxHeartbeats 2000000 in
theorem r_X10_changes (v1 : Int32) (v2 : Int32) (hi : Nat → Nat → Int32) (hl : Nat → Nat → Int64) (r : xRr) (o : Int32 × xSt) (h : F_X10_changes v1 v2 hi hl r = some o) : xM yX10_changes cX10_changes 3 3 (1, 0, 0) z [.ref 36, .int v1, .int v2] (xhp hi hl r) (xoI o) := by
  refine x_meth2 (C := RX10) (ini := false) (L := [some (.ref 36), some (.int v1), some (.int v2)]) rfl (by decide) (fun h9 => by cases h9) (by decide) (Nat.le_of_ble_eq_true rfl) rfl ?_
  refine x_aload_n (pc' := 1) dX10_changes_0 rfl rfl ?_
  refine x_iload_n (pc' := 2) dX10_changes_1 rfl rfl ?_
  refine x_aload_n (pc' := 3) dX10_changes_2 rfl rfl ?_
  refine x_getr (pc' := 6) (t := 38) dX10_changes_3 f_X10_15 (by decide) rfl rfl rfl rfl ?_
  refine x_iload_n (pc' := 7) dX10_changes_6 rfl rfl ?_
  refine xg_if h (fun g1 h => ?_)
  refine x_iald (pc' := 8) dX10_changes_7 (by decide) rfl (xok_in g1) rfl ?_
  refine xg_bI h (fun w3 hi3 hl3 r3 e2 h => ?_)
  refine x_callV (pc' := 11) (S := []) (As := [.int v2, .int (hi 38 (Int32.toNatClampNeg v1))]) (b' := (0, 0, 0)) dX10_changes_8 l_X10_56 m_X10_touches rfl rfl (show 36 < 122 by decide) rfl (Nat.le_of_ble_eq_true rfl) (Nat.le_of_ble_eq_true rfl) (Nat.le_of_ble_eq_true rfl) (Nat.le_of_ble_eq_true rfl) (r_X10_touches _ _ _ _ _ _ e2) rfl ?_
  refine xg_ite h (fun g4 h => ?_) (fun g4 h => ?_)
  · refine x_if_ne (tgt := 41) (pc' := 14) dX10_changes_11 (by decide) rfl (fun hn => absurd g4 hn) (fun _ => ?_)
    refine x_aload_n (pc' := 15) dX10_changes_14 rfl rfl ?_
    refine x_getr (pc' := 18) (t := 30) dX10_changes_15 f_X10_24 (by decide) rfl rfl rfl rfl ?_
    refine x_iload_n (pc' := 19) dX10_changes_18 rfl rfl ?_
    refine x_iconst (pc' := 20) (x := 0) dX10_changes_19 (by decide) rfl ?_
    refine xg_bI h (fun w6 hi6 hl6 r6 e5 h => ?_)
    refine x_callV (pc' := 23) (S := []) (As := [.int v1, .int (0 : Int32)]) (b' := (0, 0, 0)) dX10_changes_20 l_X10_38 m_X4_part rfl rfl (show 30 < 122 by decide) rfl (Nat.le_of_ble_eq_true rfl) (Nat.le_of_ble_eq_true rfl) (Nat.le_of_ble_eq_true rfl) (Nat.le_of_ble_eq_true rfl) (r_X4_part _ _ _ _ _ _ e5) rfl ?_
    refine x_iconst (pc' := 24) (x := 4) dX10_changes_23 (by decide) rfl ?_
    refine xg_ite h (fun g7 h => ?_) (fun g7 h => ?_)
    · refine x_icmp_ne (tgt := 45) (pc' := 27) dX10_changes_24 (by decide) rfl (fun hn => absurd g7 hn) (fun _ => ?_)
      refine x_aload_n (pc' := 28) dX10_changes_27 rfl rfl ?_
      refine x_iload_n (pc' := 29) dX10_changes_28 rfl rfl ?_
      refine x_aload_n (pc' := 30) dX10_changes_29 rfl rfl ?_
      refine x_getr (pc' := 33) (t := 37) dX10_changes_30 f_X10_9 (by decide) rfl rfl rfl rfl ?_
      refine x_iload_n (pc' := 34) dX10_changes_33 rfl rfl ?_
      refine x_iald (pc' := 35) dX10_changes_34 (by decide) rfl (xok_in g1) rfl ?_
      refine xg_bI h (fun w9 hi9 hl9 r9 e8 h => ?_)
      refine x_callV (pc' := 38) (S := []) (As := [.int v2, .int (hi6 37 (Int32.toNatClampNeg v1))]) (b' := (0, 0, 0)) dX10_changes_35 l_X10_56 m_X10_touches rfl rfl (show 36 < 122 by decide) rfl (Nat.le_of_ble_eq_true rfl) (Nat.le_of_ble_eq_true rfl) (Nat.le_of_ble_eq_true rfl) (Nat.le_of_ble_eq_true rfl) (r_X10_touches _ _ _ _ _ _ e8) rfl ?_
      refine xg_ite h (fun g10 h => ?_) (fun g10 h => ?_)
      · refine x_if_eq (tgt := 45) (pc' := 41) dX10_changes_38 (by decide) rfl (fun _ => ?_) (fun hn => absurd g10 hn)
        refine x_iconst (pc' := 46) (x := 0) dX10_changes_45 (by decide) rfl ?_
        obtain rfl := Option.some.inj h
        exact x_zret dX10_changes_46 rfl (Or.inl rfl) rfl (Nat.le_of_ble_eq_true rfl) rfl
      · refine x_if_eq (tgt := 45) (pc' := 41) dX10_changes_38 (by decide) rfl (fun hn => absurd hn g10) (fun _ => ?_)
        exact r_X10_changes_41 _ _ _ _ _ _ h
    · refine x_icmp_ne (tgt := 45) (pc' := 27) dX10_changes_24 (by decide) rfl (fun _ => ?_) (fun hn => absurd hn g7)
      refine x_iconst (pc' := 46) (x := 0) dX10_changes_45 (by decide) rfl ?_
      obtain rfl := Option.some.inj h
      exact x_zret dX10_changes_46 rfl (Or.inl rfl) rfl (Nat.le_of_ble_eq_true rfl) rfl
  · refine x_if_ne (tgt := 41) (pc' := 14) dX10_changes_11 (by decide) rfl (fun _ => ?_) (fun hn => absurd hn g4)
    exact r_X10_changes_41 _ _ _ _ _ _ h
def F_X10_find_115 (K2 : Int32 → (Nat → Nat → Int32) → (Nat → Nat → Int64) → xRr → Option (xSt)) (K79 : Int32 → Int32 → Int32 → (Nat → Nat → Int32) → (Nat → Nat → Int64) → xRr → Option (xSt)) (v1 : Int32) (v2 : Int32) (v3 : Int32) (hi : Nat → Nat → Int32) (hl : Nat → Nat → Int64) (r : xRr) : Option (xSt) := K79 v1 v2 (v3 + (1)) hi hl r
set_option maxRecDepth 20000 in
set_option maxHeartbeats 2000000 in
theorem r_X10_find_115 (K2 : Int32 → (Nat → Nat → Int32) → (Nat → Nat → Int64) → xRr → Option (xSt)) (hK2 : ∀ (v1 : Int32) (d2 : Option Value) (d3 : Option Value) (hi : Nat → Nat → Int32) (hl : Nat → Nat → Int64) (r : xRr) (o : xSt), K2 v1 hi hl r = some o → xR (RX10, cX10_find, 4, false, 0) (2, 0, 0) z 0 0 2 [some (.ref 36), some (.int v1), d2, d3] [] (xhp hi hl r) (xoV o)) (K79 : Int32 → Int32 → Int32 → (Nat → Nat → Int32) → (Nat → Nat → Int64) → xRr → Option (xSt)) (hK79 : ∀ (v1 : Int32) (v2 : Int32) (v3 : Int32) (hi : Nat → Nat → Int32) (hl : Nat → Nat → Int64) (r : xRr) (o : xSt), K79 v1 v2 v3 hi hl r = some o → xR (RX10, cX10_find, 4, false, 0) (2, 0, 0) z 0 0 79 [some (.ref 36), some (.int v1), some (.int v2), some (.int v3)] [] (xhp hi hl r) (xoV o)) (v1 : Int32) (v2 : Int32) (v3 : Int32) (hi : Nat → Nat → Int32) (hl : Nat → Nat → Int64) (r : xRr) (o : xSt) (h : F_X10_find_115 K2 K79 v1 v2 v3 hi hl r = some o) : xR (RX10, cX10_find, 4, false, 0) (2, 0, 0) z 0 0 115 [some (.ref 36), some (.int v1), some (.int v2), some (.int v3)] [] (xhp hi hl r) (xoV o) := by
  refine x_iinc (pc' := 118) (v := (v3 + (1))) (L' := [some (.ref 36), some (.int v1), some (.int v2), some (.int (v3 + (1)))]) dX10_find_115 rfl rfl (Nat.le_of_ble_eq_true rfl) rfl rfl ?_
  refine x_goto (tgt := 79) dX10_find_118 (by decide) ?_
  exact hK79 _ _ _ _ _ _ _ h
def F_X10_find_102 (K2 : Int32 → (Nat → Nat → Int32) → (Nat → Nat → Int64) → xRr → Option (xSt)) (K79 : Int32 → Int32 → Int32 → (Nat → Nat → Int32) → (Nat → Nat → Int64) → xRr → Option (xSt)) (v1 : Int32) (v2 : Int32) (v3 : Int32) (hi : Nat → Nat → Int32) (hl : Nat → Nat → Int64) (r : xRr) : Option (xSt) := if xok v3 16 = true then F_X10_find_115 K2 K79 v1 (if v2 < ((hi 39 (Int32.toNatClampNeg v3)) + (1 : Int32)) then ((hi 39 (Int32.toNatClampNeg v3)) + (1 : Int32)) else v2) v3 hi hl r else none
set_option maxRecDepth 20000 in
set_option maxHeartbeats 2000000 in
theorem r_X10_find_102 (K2 : Int32 → (Nat → Nat → Int32) → (Nat → Nat → Int64) → xRr → Option (xSt)) (hK2 : ∀ (v1 : Int32) (d2 : Option Value) (d3 : Option Value) (hi : Nat → Nat → Int32) (hl : Nat → Nat → Int64) (r : xRr) (o : xSt), K2 v1 hi hl r = some o → xR (RX10, cX10_find, 4, false, 0) (2, 0, 0) z 0 0 2 [some (.ref 36), some (.int v1), d2, d3] [] (xhp hi hl r) (xoV o)) (K79 : Int32 → Int32 → Int32 → (Nat → Nat → Int32) → (Nat → Nat → Int64) → xRr → Option (xSt)) (hK79 : ∀ (v1 : Int32) (v2 : Int32) (v3 : Int32) (hi : Nat → Nat → Int32) (hl : Nat → Nat → Int64) (r : xRr) (o : xSt), K79 v1 v2 v3 hi hl r = some o → xR (RX10, cX10_find, 4, false, 0) (2, 0, 0) z 0 0 79 [some (.ref 36), some (.int v1), some (.int v2), some (.int v3)] [] (xhp hi hl r) (xoV o)) (v1 : Int32) (v2 : Int32) (v3 : Int32) (hi : Nat → Nat → Int32) (hl : Nat → Nat → Int64) (r : xRr) (o : xSt) (h : F_X10_find_102 K2 K79 v1 v2 v3 hi hl r = some o) : xR (RX10, cX10_find, 4, false, 0) (2, 0, 0) z 0 0 102 [some (.ref 36), some (.int v1), some (.int v2), some (.int v3)] [] (xhp hi hl r) (xoV o) := by
  refine x_iload_n (pc' := 103) dX10_find_102 rfl rfl ?_
  refine x_aload_n (pc' := 104) dX10_find_103 rfl rfl ?_
  refine x_getr (pc' := 107) (t := 39) dX10_find_104 f_X10_18 (by decide) rfl rfl rfl rfl ?_
  refine x_iload_n (pc' := 108) dX10_find_107 rfl rfl ?_
  refine xg_if h (fun g1 h => ?_)
  refine x_iald (pc' := 109) dX10_find_108 (by decide) rfl (xok_in g1) rfl ?_
  refine x_iconst (pc' := 110) (x := 1) dX10_find_109 (by decide) rfl ?_
  refine x_iadd (pc' := 111) dX10_find_110 rfl ?_
  refine x_mmax (pc' := 114) dX10_find_111 ml_X10_51 ma_J9_max_7cf53 mc_math mb_J9_max_7cf53 (Nat.le_of_ble_eq_true rfl) (Nat.le_of_ble_eq_true rfl) (Nat.le_of_ble_eq_true rfl) (Nat.le_of_ble_eq_true rfl) rfl ?_
  refine x_istore_n (pc' := 115) (L' := [some (.ref 36), some (.int v1), some (.int (if v2 < ((hi 39 (Int32.toNatClampNeg v3)) + (1 : Int32)) then ((hi 39 (Int32.toNatClampNeg v3)) + (1 : Int32)) else v2)), some (.int v3)]) dX10_find_114 (Nat.le_of_ble_eq_true rfl) rfl rfl ?_
  exact r_X10_find_115 K2 hK2 K79 hK79 _ _ _ _ _ _ _ h
def F_X10_find_79 (K2 : Int32 → (Nat → Nat → Int32) → (Nat → Nat → Int64) → xRr → Option (xSt)) : Nat → Int32 → Int32 → Int32 → (Nat → Nat → Int32) → (Nat → Nat → Int64) → xRr → Option (xSt)
  | 0, _, _, _, _, _, _ => none
  | n + 1, v1, v2, v3, hi, hl, r => if v1 ≤ v3 then if xok v1 16 = true then K2 (v1 + (1)) (xu hi 39 (Int32.toNatClampNeg v1) v2) hl r else none else xbI (F_X10_changes v3 v1 hi hl r) (fun w4 hi4 hl4 r4 => if w4 = 0 then xbI (F_X10_changes v1 v3 hi4 hl4 r4) (fun w7 hi7 hl7 r7 => if w7 = 0 then F_X10_find_115 K2 (F_X10_find_79 K2 n) v1 v2 v3 hi7 hl7 r7 else F_X10_find_102 K2 (F_X10_find_79 K2 n) v1 v2 v3 hi7 hl7 r7) else F_X10_find_102 K2 (F_X10_find_79 K2 n) v1 v2 v3 hi4 hl4 r4)
set_option maxRecDepth 20000 in
set_option maxHeartbeats 2000000 in
theorem r_X10_find_79 (K2 : Int32 → (Nat → Nat → Int32) → (Nat → Nat → Int64) → xRr → Option (xSt)) (hK2 : ∀ (v1 : Int32) (d2 : Option Value) (d3 : Option Value) (hi : Nat → Nat → Int32) (hl : Nat → Nat → Int64) (r : xRr) (o : xSt), K2 v1 hi hl r = some o → xR (RX10, cX10_find, 4, false, 0) (2, 0, 0) z 0 0 2 [some (.ref 36), some (.int v1), d2, d3] [] (xhp hi hl r) (xoV o)) : ∀ (n : Nat) (v1 : Int32) (v2 : Int32) (v3 : Int32) (hi : Nat → Nat → Int32) (hl : Nat → Nat → Int64) (r : xRr) (o : xSt), F_X10_find_79 K2 n v1 v2 v3 hi hl r = some o → xR (RX10, cX10_find, 4, false, 0) (2, 0, 0) z 0 0 79 [some (.ref 36), some (.int v1), some (.int v2), some (.int v3)] [] (xhp hi hl r) (xoV o) := by
  intro n
  induction n with
  | zero =>
    intro v1 v2 v3 hi hl r o h
    have h : none = some o := h
    cases h
  | succ n ih =>
    intro v1 v2 v3 hi hl r o h
    refine x_iload_n (pc' := 80) dX10_find_79 rfl rfl ?_
    refine x_iload_n (pc' := 81) dX10_find_80 rfl rfl ?_
    refine xg_ite h (fun g1 h => ?_) (fun g1 h => ?_)
    · refine x_icmp_ge (tgt := 121) (pc' := 84) dX10_find_81 (by decide) rfl (fun _ => ?_) (fun hn => absurd g1 hn)
      refine x_aload_n (pc' := 122) dX10_find_121 rfl rfl ?_
      refine x_getr (pc' := 125) (t := 39) dX10_find_122 f_X10_18 (by decide) rfl rfl rfl rfl ?_
      refine x_iload_n (pc' := 126) dX10_find_125 rfl rfl ?_
      refine x_iload_n (pc' := 127) dX10_find_126 rfl rfl ?_
      refine xg_if h (fun g2 h => ?_)
      refine x_iast (pc' := 128) dX10_find_127 (by decide) rfl (xok_in g2) rfl ?_
      refine x_iinc (pc' := 131) (v := (v1 + (1))) (L' := [some (.ref 36), some (.int (v1 + (1))), some (.int v2), some (.int v3)]) dX10_find_128 rfl rfl (Nat.le_of_ble_eq_true rfl) rfl rfl ?_
      refine x_goto (tgt := 2) dX10_find_131 (by decide) ?_
      exact hK2 _ _ _ _ _ _ _ h
    · refine x_icmp_ge (tgt := 121) (pc' := 84) dX10_find_81 (by decide) rfl (fun hn => absurd hn g1) (fun _ => ?_)
      refine x_aload_n (pc' := 85) dX10_find_84 rfl rfl ?_
      refine x_iload_n (pc' := 86) dX10_find_85 rfl rfl ?_
      refine x_iload_n (pc' := 87) dX10_find_86 rfl rfl ?_
      refine xg_bI h (fun w4 hi4 hl4 r4 e3 h => ?_)
      refine x_callV (pc' := 90) (S := []) (As := [.int v3, .int v1]) (b' := (1, 0, 0)) dX10_find_87 l_X10_47 m_X10_changes rfl rfl (show 36 < 122 by decide) rfl (Nat.le_of_ble_eq_true rfl) (Nat.le_of_ble_eq_true rfl) (Nat.le_of_ble_eq_true rfl) (Nat.le_of_ble_eq_true rfl) (r_X10_changes _ _ _ _ _ _ e3) rfl ?_
      refine xg_ite h (fun g5 h => ?_) (fun g5 h => ?_)
      · refine x_if_ne (tgt := 102) (pc' := 93) dX10_find_90 (by decide) rfl (fun hn => absurd g5 hn) (fun _ => ?_)
        refine x_aload_n (pc' := 94) dX10_find_93 rfl rfl ?_
        refine x_iload_n (pc' := 95) dX10_find_94 rfl rfl ?_
        refine x_iload_n (pc' := 96) dX10_find_95 rfl rfl ?_
        refine xg_bI h (fun w7 hi7 hl7 r7 e6 h => ?_)
        refine x_callV (pc' := 99) (S := []) (As := [.int v1, .int v3]) (b' := (1, 0, 0)) dX10_find_96 l_X10_47 m_X10_changes rfl rfl (show 36 < 122 by decide) rfl (Nat.le_of_ble_eq_true rfl) (Nat.le_of_ble_eq_true rfl) (Nat.le_of_ble_eq_true rfl) (Nat.le_of_ble_eq_true rfl) (r_X10_changes _ _ _ _ _ _ e6) rfl ?_
        refine xg_ite h (fun g8 h => ?_) (fun g8 h => ?_)
        · refine x_if_eq (tgt := 115) (pc' := 102) dX10_find_99 (by decide) rfl (fun _ => ?_) (fun hn => absurd g8 hn)
          exact r_X10_find_115 K2 hK2 (F_X10_find_79 K2 n) ih _ _ _ _ _ _ _ h
        · refine x_if_eq (tgt := 115) (pc' := 102) dX10_find_99 (by decide) rfl (fun hn => absurd hn g8) (fun _ => ?_)
          exact r_X10_find_102 K2 hK2 (F_X10_find_79 K2 n) ih _ _ _ _ _ _ _ h
      · refine x_if_ne (tgt := 102) (pc' := 93) dX10_find_90 (by decide) rfl (fun _ => ?_) (fun hn => absurd hn g5)
        exact r_X10_find_102 K2 hK2 (F_X10_find_79 K2 n) ih _ _ _ _ _ _ _ h
def F_X10_find_2 : Nat → Int32 → (Nat → Nat → Int32) → (Nat → Nat → Int64) → xRr → Option (xSt)
  | 0, _, _, _, _ => none
  | n + 1, v1, hi, hl, r => if (hi 30 2) ≤ v1 then some (hi, hl, r) else xbI (F_X4_part v1 (1 : Int32) hi hl r) (fun w3 hi3 hl3 r3 => xbI (F_X4_part v1 (2 : Int32) hi3 hl3 r3) (fun w5 hi5 hl5 r5 => xbI (F_X8_cellAt w3 w5 hi5 hl5 r5) (fun w7 hi7 hl7 r7 => if xok v1 16 = true then xbI (F_X4_part v1 (3 : Int32) (xu hi7 37 (Int32.toNatClampNeg v1) w7) hl7 r7) (fun w10 hi10 hl10 r10 => xbI (F_X4_part v1 (4 : Int32) hi10 hl10 r10) (fun w12 hi12 hl12 r12 => xbI (F_X8_cellAt w10 w12 hi12 hl12 r12) (fun w14 hi14 hl14 r14 => F_X10_find_79 (F_X10_find_2 n) 1000000 v1 (0 : Int32) (0 : Int32) (xu hi14 38 (Int32.toNatClampNeg v1) w14) hl14 r14))) else none)))
set_option maxRecDepth 20000 in
set_option maxHeartbeats 2000000 in
theorem r_X10_find_2 : ∀ (n : Nat) (v1 : Int32) (d2 : Option Value) (d3 : Option Value) (hi : Nat → Nat → Int32) (hl : Nat → Nat → Int64) (r : xRr) (o : xSt), F_X10_find_2 n v1 hi hl r = some o → xR (RX10, cX10_find, 4, false, 0) (2, 0, 0) z 0 0 2 [some (.ref 36), some (.int v1), d2, d3] [] (xhp hi hl r) (xoV o) := by
  intro n
  induction n with
  | zero =>
    intro v1 d2 d3 hi hl r o h
    have h : none = some o := h
    cases h
  | succ n ih =>
    intro v1 d2 d3 hi hl r o h
    refine x_iload_n (pc' := 3) dX10_find_2 rfl rfl ?_
    refine x_aload_n (pc' := 4) dX10_find_3 rfl rfl ?_
    refine x_getr (pc' := 7) (t := 30) dX10_find_4 f_X10_24 (by decide) rfl rfl rfl rfl ?_
    refine x_geti (pc' := 10) dX10_find_7 f_X10_32 (by decide) rfl rfl rfl ?_
    refine xg_ite h (fun g1 h => ?_) (fun g1 h => ?_)
    · refine x_icmp_ge (tgt := 134) (pc' := 13) dX10_find_10 (by decide) rfl (fun _ => ?_) (fun hn => absurd g1 hn)
      obtain rfl := Option.some.inj h
      exact x_vret dX10_find_134 rfl rfl (Nat.le_of_ble_eq_true rfl) rfl
    · refine x_icmp_ge (tgt := 134) (pc' := 13) dX10_find_10 (by decide) rfl (fun hn => absurd hn g1) (fun _ => ?_)
      refine x_aload_n (pc' := 14) dX10_find_13 rfl rfl ?_
      refine x_getr (pc' := 17) (t := 37) dX10_find_14 f_X10_9 (by decide) rfl rfl rfl rfl ?_
      refine x_iload_n (pc' := 18) dX10_find_17 rfl rfl ?_
      refine x_aload_n (pc' := 19) dX10_find_18 rfl rfl ?_
      refine x_getr (pc' := 22) (t := 6) dX10_find_19 f_X10_28 (by decide) rfl rfl rfl rfl ?_
      refine x_aload_n (pc' := 23) dX10_find_22 rfl rfl ?_
      refine x_getr (pc' := 26) (t := 30) dX10_find_23 f_X10_24 (by decide) rfl rfl rfl rfl ?_
      refine x_iload_n (pc' := 27) dX10_find_26 rfl rfl ?_
      refine x_iconst (pc' := 28) (x := 1) dX10_find_27 (by decide) rfl ?_
      refine xg_bI h (fun w3 hi3 hl3 r3 e2 h => ?_)
      refine x_callV (pc' := 31) (S := [.ref 6, .int v1, .ref 37]) (As := [.int v1, .int (1 : Int32)]) (b' := (0, 0, 0)) dX10_find_28 l_X10_38 m_X4_part rfl rfl (show 30 < 122 by decide) rfl (Nat.le_of_ble_eq_true rfl) (Nat.le_of_ble_eq_true rfl) (Nat.le_of_ble_eq_true rfl) (Nat.le_of_ble_eq_true rfl) (r_X4_part _ _ _ _ _ _ e2) rfl ?_
      refine x_aload_n (pc' := 32) dX10_find_31 rfl rfl ?_
      refine x_getr (pc' := 35) (t := 30) dX10_find_32 f_X10_24 (by decide) rfl rfl rfl rfl ?_
      refine x_iload_n (pc' := 36) dX10_find_35 rfl rfl ?_
      refine x_iconst (pc' := 37) (x := 2) dX10_find_36 (by decide) rfl ?_
      refine xg_bI h (fun w5 hi5 hl5 r5 e4 h => ?_)
      refine x_callV (pc' := 40) (S := [.int w3, .ref 6, .int v1, .ref 37]) (As := [.int v1, .int (2 : Int32)]) (b' := (0, 0, 0)) dX10_find_37 l_X10_38 m_X4_part rfl rfl (show 30 < 122 by decide) rfl (Nat.le_of_ble_eq_true rfl) (Nat.le_of_ble_eq_true rfl) (Nat.le_of_ble_eq_true rfl) (Nat.le_of_ble_eq_true rfl) (r_X4_part _ _ _ _ _ _ e4) rfl ?_
      refine xg_bI h (fun w7 hi7 hl7 r7 e6 h => ?_)
      refine x_callV (pc' := 43) (S := [.int v1, .ref 37]) (As := [.int w3, .int w5]) (b' := (1, 0, 0)) dX10_find_40 l_X10_42 m_X8_cellAt rfl rfl (show 6 < 122 by decide) rfl (Nat.le_of_ble_eq_true rfl) (Nat.le_of_ble_eq_true rfl) (Nat.le_of_ble_eq_true rfl) (Nat.le_of_ble_eq_true rfl) (r_X8_cellAt _ _ _ _ _ _ e6) rfl ?_
      refine xg_if h (fun g8 h => ?_)
      refine x_iast (pc' := 44) dX10_find_43 (by decide) rfl (xok_in g8) rfl ?_
      refine x_aload_n (pc' := 45) dX10_find_44 rfl rfl ?_
      refine x_getr (pc' := 48) (t := 38) dX10_find_45 f_X10_15 (by decide) rfl rfl rfl rfl ?_
      refine x_iload_n (pc' := 49) dX10_find_48 rfl rfl ?_
      refine x_aload_n (pc' := 50) dX10_find_49 rfl rfl ?_
      refine x_getr (pc' := 53) (t := 6) dX10_find_50 f_X10_28 (by decide) rfl rfl rfl rfl ?_
      refine x_aload_n (pc' := 54) dX10_find_53 rfl rfl ?_
      refine x_getr (pc' := 57) (t := 30) dX10_find_54 f_X10_24 (by decide) rfl rfl rfl rfl ?_
      refine x_iload_n (pc' := 58) dX10_find_57 rfl rfl ?_
      refine x_iconst (pc' := 59) (x := 3) dX10_find_58 (by decide) rfl ?_
      refine xg_bI h (fun w10 hi10 hl10 r10 e9 h => ?_)
      refine x_callV (pc' := 62) (S := [.ref 6, .int v1, .ref 38]) (As := [.int v1, .int (3 : Int32)]) (b' := (0, 0, 0)) dX10_find_59 l_X10_38 m_X4_part rfl rfl (show 30 < 122 by decide) rfl (Nat.le_of_ble_eq_true rfl) (Nat.le_of_ble_eq_true rfl) (Nat.le_of_ble_eq_true rfl) (Nat.le_of_ble_eq_true rfl) (r_X4_part _ _ _ _ _ _ e9) rfl ?_
      refine x_aload_n (pc' := 63) dX10_find_62 rfl rfl ?_
      refine x_getr (pc' := 66) (t := 30) dX10_find_63 f_X10_24 (by decide) rfl rfl rfl rfl ?_
      refine x_iload_n (pc' := 67) dX10_find_66 rfl rfl ?_
      refine x_iconst (pc' := 68) (x := 4) dX10_find_67 (by decide) rfl ?_
      refine xg_bI h (fun w12 hi12 hl12 r12 e11 h => ?_)
      refine x_callV (pc' := 71) (S := [.int w10, .ref 6, .int v1, .ref 38]) (As := [.int v1, .int (4 : Int32)]) (b' := (0, 0, 0)) dX10_find_68 l_X10_38 m_X4_part rfl rfl (show 30 < 122 by decide) rfl (Nat.le_of_ble_eq_true rfl) (Nat.le_of_ble_eq_true rfl) (Nat.le_of_ble_eq_true rfl) (Nat.le_of_ble_eq_true rfl) (r_X4_part _ _ _ _ _ _ e11) rfl ?_
      refine xg_bI h (fun w14 hi14 hl14 r14 e13 h => ?_)
      refine x_callV (pc' := 74) (S := [.int v1, .ref 38]) (As := [.int w10, .int w12]) (b' := (1, 0, 0)) dX10_find_71 l_X10_42 m_X8_cellAt rfl rfl (show 6 < 122 by decide) rfl (Nat.le_of_ble_eq_true rfl) (Nat.le_of_ble_eq_true rfl) (Nat.le_of_ble_eq_true rfl) (Nat.le_of_ble_eq_true rfl) (r_X8_cellAt _ _ _ _ _ _ e13) rfl ?_
      refine x_iast (pc' := 75) dX10_find_74 (by decide) rfl (xok_in g8) rfl ?_
      refine x_iconst (pc' := 76) (x := 0) dX10_find_75 (by decide) rfl ?_
      refine x_istore_n (pc' := 77) (L' := [some (.ref 36), some (.int v1), some (.int (0 : Int32)), d3]) dX10_find_76 (Nat.le_of_ble_eq_true rfl) rfl rfl ?_
      refine x_iconst (pc' := 78) (x := 0) dX10_find_77 (by decide) rfl ?_
      refine x_istore_n (pc' := 79) (L' := [some (.ref 36), some (.int v1), some (.int (0 : Int32)), some (.int (0 : Int32))]) dX10_find_78 (Nat.le_of_ble_eq_true rfl) rfl rfl ?_
      exact r_X10_find_79 (F_X10_find_2 n) ih 1000000 _ _ _ _ _ _ _ h
def F_X10_find (hi : Nat → Nat → Int32) (hl : Nat → Nat → Int64) (r : xRr) : Option (xSt) := F_X10_find_2 1000000 (0 : Int32) hi hl r
set_option maxRecDepth 20000 in
set_option maxHeartbeats 2000000 in
theorem r_X10_find (hi : Nat → Nat → Int32) (hl : Nat → Nat → Int64) (r : xRr) (o : xSt) (h : F_X10_find hi hl r = some o) : xM yX10_find cX10_find 4 0 (2, 0, 0) z [.ref 36] (xhp hi hl r) (xoV o) := by
  refine x_meth2 (C := RX10) (ini := false) (L := [some (.ref 36), none, none, none]) rfl (by decide) (fun h9 => by cases h9) (by decide) (Nat.le_of_ble_eq_true rfl) rfl ?_
  refine x_iconst (pc' := 1) (x := 0) dX10_find_0 (by decide) rfl ?_
  refine x_istore_n (pc' := 2) (L' := [some (.ref 36), some (.int (0 : Int32)), none, none]) dX10_find_1 (Nat.le_of_ble_eq_true rfl) rfl rfl ?_
  exact r_X10_find_2 1000000 _ _ _ _ _ _ _ h
def F_X10_waveOf (v1 : Int32) (hi : Nat → Nat → Int32) (hl : Nat → Nat → Int64) (r : xRr) : Option (Int32 × xSt) := if xok v1 16 = true then some ((hi 39 (Int32.toNatClampNeg v1)), hi, hl, r) else none
set_option maxRecDepth 20000 in
set_option maxHeartbeats 2000000 in
theorem r_X10_waveOf (v1 : Int32) (hi : Nat → Nat → Int32) (hl : Nat → Nat → Int64) (r : xRr) (o : Int32 × xSt) (h : F_X10_waveOf v1 hi hl r = some o) : xM yX10_waveOf cX10_waveOf 2 1 (0, 0, 0) z [.ref 36, .int v1] (xhp hi hl r) (xoI o) := by
  refine x_meth2 (C := RX10) (ini := false) (L := [some (.ref 36), some (.int v1)]) rfl (by decide) (fun h9 => by cases h9) (by decide) (Nat.le_of_ble_eq_true rfl) rfl ?_
  refine x_aload_n (pc' := 1) dX10_waveOf_0 rfl rfl ?_
  refine x_getr (pc' := 4) (t := 39) dX10_waveOf_1 f_X10_18 (by decide) rfl rfl rfl rfl ?_
  refine x_iload_n (pc' := 5) dX10_waveOf_4 rfl rfl ?_
  refine xg_if h (fun g1 h => ?_)
  refine x_iald (pc' := 6) dX10_waveOf_5 (by decide) rfl (xok_in g1) rfl ?_
  obtain rfl := Option.some.inj h
  exact x_iret dX10_waveOf_6 rfl rfl (Nat.le_of_ble_eq_true rfl) rfl
def F_X10_sortLines_63 (K6 : Int32 → Int32 → Int32 → (Nat → Nat → Int32) → (Nat → Nat → Int64) → xRr → Option (Int32 × xSt)) (K15 : Int32 → Int32 → Int32 → Int32 → (Nat → Nat → Int32) → (Nat → Nat → Int64) → xRr → Option (Int32 × xSt)) (v1 : Int32) (v2 : Int32) (v3 : Int32) (v4 : Int32) (hi : Nat → Nat → Int32) (hl : Nat → Nat → Int64) (r : xRr) : Option (Int32 × xSt) := K15 v1 v2 v3 (v4 + (1)) hi hl r
set_option maxRecDepth 20000 in
set_option maxHeartbeats 2000000 in
theorem r_X10_sortLines_63 (K6 : Int32 → Int32 → Int32 → (Nat → Nat → Int32) → (Nat → Nat → Int64) → xRr → Option (Int32 × xSt)) (hK6 : ∀ (v1 : Int32) (v2 : Int32) (v3 : Int32) (d4 : Option Value) (hi : Nat → Nat → Int32) (hl : Nat → Nat → Int64) (r : xRr) (o : Int32 × xSt), K6 v1 v2 v3 hi hl r = some o → xR (RX10, cX10_sortLines, 5, false, 1) (2, 0, 0) z 0 0 6 [some (.ref 36), some (.int v1), some (.int v2), some (.int v3), d4] [] (xhp hi hl r) (xoI o)) (K15 : Int32 → Int32 → Int32 → Int32 → (Nat → Nat → Int32) → (Nat → Nat → Int64) → xRr → Option (Int32 × xSt)) (hK15 : ∀ (v1 : Int32) (v2 : Int32) (v3 : Int32) (v4 : Int32) (hi : Nat → Nat → Int32) (hl : Nat → Nat → Int64) (r : xRr) (o : Int32 × xSt), K15 v1 v2 v3 v4 hi hl r = some o → xR (RX10, cX10_sortLines, 5, false, 1) (2, 0, 0) z 0 0 15 [some (.ref 36), some (.int v1), some (.int v2), some (.int v3), some (.int v4)] [] (xhp hi hl r) (xoI o)) (v1 : Int32) (v2 : Int32) (v3 : Int32) (v4 : Int32) (hi : Nat → Nat → Int32) (hl : Nat → Nat → Int64) (r : xRr) (o : Int32 × xSt) (h : F_X10_sortLines_63 K6 K15 v1 v2 v3 v4 hi hl r = some o) : xR (RX10, cX10_sortLines, 5, false, 1) (2, 0, 0) z 0 0 63 [some (.ref 36), some (.int v1), some (.int v2), some (.int v3), some (.int v4)] [] (xhp hi hl r) (xoI o) := by
  refine x_iinc (pc' := 66) (v := (v4 + (1))) (L' := [some (.ref 36), some (.int v1), some (.int v2), some (.int v3), some (.int (v4 + (1)))]) dX10_sortLines_63 rfl rfl (Nat.le_of_ble_eq_true rfl) rfl rfl ?_
  refine x_goto (tgt := 15) dX10_sortLines_66 (by decide) ?_
  exact hK15 _ _ _ _ _ _ _ _ h
def F_X10_sortLines_50 (K6 : Int32 → Int32 → Int32 → (Nat → Nat → Int32) → (Nat → Nat → Int64) → xRr → Option (Int32 × xSt)) (K15 : Int32 → Int32 → Int32 → Int32 → (Nat → Nat → Int32) → (Nat → Nat → Int64) → xRr → Option (Int32 × xSt)) (v1 : Int32) (v3 : Int32) (v4 : Int32) (s0 : Int32) (s1 : Int32) (hi : Nat → Nat → Int32) (hl : Nat → Nat → Int64) (r : xRr) : Option (Int32 × xSt) := if xok v1 16 = true then F_X10_sortLines_63 K6 K15 (v1 + (1)) (s0 + s1) v3 v4 (xu hi 40 (Int32.toNatClampNeg v1) v4) hl r else none
set_option maxRecDepth 20000 in
set_option maxHeartbeats 2000000 in
theorem r_X10_sortLines_50 (K6 : Int32 → Int32 → Int32 → (Nat → Nat → Int32) → (Nat → Nat → Int64) → xRr → Option (Int32 × xSt)) (hK6 : ∀ (v1 : Int32) (v2 : Int32) (v3 : Int32) (d4 : Option Value) (hi : Nat → Nat → Int32) (hl : Nat → Nat → Int64) (r : xRr) (o : Int32 × xSt), K6 v1 v2 v3 hi hl r = some o → xR (RX10, cX10_sortLines, 5, false, 1) (2, 0, 0) z 0 0 6 [some (.ref 36), some (.int v1), some (.int v2), some (.int v3), d4] [] (xhp hi hl r) (xoI o)) (K15 : Int32 → Int32 → Int32 → Int32 → (Nat → Nat → Int32) → (Nat → Nat → Int64) → xRr → Option (Int32 × xSt)) (hK15 : ∀ (v1 : Int32) (v2 : Int32) (v3 : Int32) (v4 : Int32) (hi : Nat → Nat → Int32) (hl : Nat → Nat → Int64) (r : xRr) (o : Int32 × xSt), K15 v1 v2 v3 v4 hi hl r = some o → xR (RX10, cX10_sortLines, 5, false, 1) (2, 0, 0) z 0 0 15 [some (.ref 36), some (.int v1), some (.int v2), some (.int v3), some (.int v4)] [] (xhp hi hl r) (xoI o)) (v1 : Int32) (v3 : Int32) (v4 : Int32) (s0 : Int32) (s1 : Int32) (d2 : Option Value) (hi : Nat → Nat → Int32) (hl : Nat → Nat → Int64) (r : xRr) (o : Int32 × xSt) (h : F_X10_sortLines_50 K6 K15 v1 v3 v4 s0 s1 hi hl r = some o) : xR (RX10, cX10_sortLines, 5, false, 1) (2, 0, 0) z 0 0 50 [some (.ref 36), some (.int v1), d2, some (.int v3), some (.int v4)] [.int s1, .int s0] (xhp hi hl r) (xoI o) := by
  refine x_iadd (pc' := 51) dX10_sortLines_50 rfl ?_
  refine x_istore_n (pc' := 52) (L' := [some (.ref 36), some (.int v1), some (.int (s0 + s1)), some (.int v3), some (.int v4)]) dX10_sortLines_51 (Nat.le_of_ble_eq_true rfl) rfl rfl ?_
  refine x_aload_n (pc' := 53) dX10_sortLines_52 rfl rfl ?_
  refine x_getr (pc' := 56) (t := 40) dX10_sortLines_53 f_X10_21 (by decide) rfl rfl rfl rfl ?_
  refine x_iload_n (pc' := 57) dX10_sortLines_56 rfl rfl ?_
  refine x_iload (pc' := 59) dX10_sortLines_57 rfl rfl ?_
  refine xg_if h (fun g1 h => ?_)
  refine x_iast (pc' := 60) dX10_sortLines_59 (by decide) rfl (xok_in g1) rfl ?_
  refine x_iinc (pc' := 63) (v := (v1 + (1))) (L' := [some (.ref 36), some (.int (v1 + (1))), some (.int (s0 + s1)), some (.int v3), some (.int v4)]) dX10_sortLines_60 rfl rfl (Nat.le_of_ble_eq_true rfl) rfl rfl ?_
  exact r_X10_sortLines_63 K6 hK6 K15 hK15 _ _ _ _ _ _ _ _ h
def F_X10_sortLines_15 (K6 : Int32 → Int32 → Int32 → (Nat → Nat → Int32) → (Nat → Nat → Int64) → xRr → Option (Int32 × xSt)) : Nat → Int32 → Int32 → Int32 → Int32 → (Nat → Nat → Int32) → (Nat → Nat → Int64) → xRr → Option (Int32 × xSt)
  | 0, _, _, _, _, _, _, _ => none
  | n + 1, v1, v2, v3, v4, hi, hl, r => if (hi 30 2) ≤ v4 then K6 v1 v2 (v3 + (1)) hi hl r else if xok v4 16 = true then if (hi 39 (Int32.toNatClampNeg v4)) = v3 then if v4 = v1 then F_X10_sortLines_50 K6 (F_X10_sortLines_15 K6 n) v1 v3 v4 v2 (0 : Int32) hi hl r else F_X10_sortLines_50 K6 (F_X10_sortLines_15 K6 n) v1 v3 v4 v2 (1 : Int32) hi hl r else F_X10_sortLines_63 K6 (F_X10_sortLines_15 K6 n) v1 v2 v3 v4 hi hl r else none
set_option maxRecDepth 20000 in
set_option maxHeartbeats 2000000 in
theorem r_X10_sortLines_15 (K6 : Int32 → Int32 → Int32 → (Nat → Nat → Int32) → (Nat → Nat → Int64) → xRr → Option (Int32 × xSt)) (hK6 : ∀ (v1 : Int32) (v2 : Int32) (v3 : Int32) (d4 : Option Value) (hi : Nat → Nat → Int32) (hl : Nat → Nat → Int64) (r : xRr) (o : Int32 × xSt), K6 v1 v2 v3 hi hl r = some o → xR (RX10, cX10_sortLines, 5, false, 1) (2, 0, 0) z 0 0 6 [some (.ref 36), some (.int v1), some (.int v2), some (.int v3), d4] [] (xhp hi hl r) (xoI o)) : ∀ (n : Nat) (v1 : Int32) (v2 : Int32) (v3 : Int32) (v4 : Int32) (hi : Nat → Nat → Int32) (hl : Nat → Nat → Int64) (r : xRr) (o : Int32 × xSt), F_X10_sortLines_15 K6 n v1 v2 v3 v4 hi hl r = some o → xR (RX10, cX10_sortLines, 5, false, 1) (2, 0, 0) z 0 0 15 [some (.ref 36), some (.int v1), some (.int v2), some (.int v3), some (.int v4)] [] (xhp hi hl r) (xoI o) := by
  intro n
  induction n with
  | zero =>
    intro v1 v2 v3 v4 hi hl r o h
    have h : none = some o := h
    cases h
  | succ n ih =>
    intro v1 v2 v3 v4 hi hl r o h
    refine x_iload (pc' := 17) dX10_sortLines_15 rfl rfl ?_
    refine x_aload_n (pc' := 18) dX10_sortLines_17 rfl rfl ?_
    refine x_getr (pc' := 21) (t := 30) dX10_sortLines_18 f_X10_24 (by decide) rfl rfl rfl rfl ?_
    refine x_geti (pc' := 24) dX10_sortLines_21 f_X10_32 (by decide) rfl rfl rfl ?_
    refine xg_ite h (fun g1 h => ?_) (fun g1 h => ?_)
    · refine x_icmp_ge (tgt := 69) (pc' := 27) dX10_sortLines_24 (by decide) rfl (fun _ => ?_) (fun hn => absurd g1 hn)
      refine x_iinc (pc' := 72) (v := (v3 + (1))) (L' := [some (.ref 36), some (.int v1), some (.int v2), some (.int (v3 + (1))), some (.int v4)]) dX10_sortLines_69 rfl rfl (Nat.le_of_ble_eq_true rfl) rfl rfl ?_
      refine x_goto (tgt := 6) dX10_sortLines_72 (by decide) ?_
      exact hK6 _ _ _ _ _ _ _ _ h
    · refine x_icmp_ge (tgt := 69) (pc' := 27) dX10_sortLines_24 (by decide) rfl (fun hn => absurd hn g1) (fun _ => ?_)
      refine x_aload_n (pc' := 28) dX10_sortLines_27 rfl rfl ?_
      refine x_getr (pc' := 31) (t := 39) dX10_sortLines_28 f_X10_18 (by decide) rfl rfl rfl rfl ?_
      refine x_iload (pc' := 33) dX10_sortLines_31 rfl rfl ?_
      refine xg_if h (fun g2 h => ?_)
      refine x_iald (pc' := 34) dX10_sortLines_33 (by decide) rfl (xok_in g2) rfl ?_
      refine x_iload_n (pc' := 35) dX10_sortLines_34 rfl rfl ?_
      refine xg_ite h (fun g3 h => ?_) (fun g3 h => ?_)
      · refine x_icmp_ne (tgt := 63) (pc' := 38) dX10_sortLines_35 (by decide) rfl (fun hn => absurd g3 hn) (fun _ => ?_)
        refine x_iload_n (pc' := 39) dX10_sortLines_38 rfl rfl ?_
        refine x_iload (pc' := 41) dX10_sortLines_39 rfl rfl ?_
        refine x_iload_n (pc' := 42) dX10_sortLines_41 rfl rfl ?_
        refine xg_ite h (fun g4 h => ?_) (fun g4 h => ?_)
        · refine x_icmp_ne (tgt := 49) (pc' := 45) dX10_sortLines_42 (by decide) rfl (fun hn => absurd g4 hn) (fun _ => ?_)
          refine x_iconst (pc' := 46) (x := 0) dX10_sortLines_45 (by decide) rfl ?_
          refine x_goto (tgt := 50) dX10_sortLines_46 (by decide) ?_
          exact r_X10_sortLines_50 K6 hK6 (F_X10_sortLines_15 K6 n) ih _ _ _ _ _ _ _ _ _ _ h
        · refine x_icmp_ne (tgt := 49) (pc' := 45) dX10_sortLines_42 (by decide) rfl (fun _ => ?_) (fun hn => absurd hn g4)
          refine x_iconst (pc' := 50) (x := 1) dX10_sortLines_49 (by decide) rfl ?_
          exact r_X10_sortLines_50 K6 hK6 (F_X10_sortLines_15 K6 n) ih _ _ _ _ _ _ _ _ _ _ h
      · refine x_icmp_ne (tgt := 63) (pc' := 38) dX10_sortLines_35 (by decide) rfl (fun _ => ?_) (fun hn => absurd hn g3)
        exact r_X10_sortLines_63 K6 hK6 (F_X10_sortLines_15 K6 n) ih _ _ _ _ _ _ _ _ h
def F_X10_sortLines_6 : Nat → Int32 → Int32 → Int32 → (Nat → Nat → Int32) → (Nat → Nat → Int64) → xRr → Option (Int32 × xSt)
  | 0, _, _, _, _, _, _ => none
  | n + 1, v1, v2, v3, hi, hl, r => if (16 : Int32) ≤ v3 then xbV (F_X4_lieAs 40 hi hl r) (fun hi3 hl3 r3 => some (v2, hi3, hl3, r3)) else F_X10_sortLines_15 (F_X10_sortLines_6 n) 1000000 v1 v2 v3 (0 : Int32) hi hl r
set_option maxRecDepth 20000 in
set_option maxHeartbeats 2000000 in
theorem r_X10_sortLines_6 : ∀ (n : Nat) (v1 : Int32) (v2 : Int32) (v3 : Int32) (d4 : Option Value) (hi : Nat → Nat → Int32) (hl : Nat → Nat → Int64) (r : xRr) (o : Int32 × xSt), F_X10_sortLines_6 n v1 v2 v3 hi hl r = some o → xR (RX10, cX10_sortLines, 5, false, 1) (2, 0, 0) z 0 0 6 [some (.ref 36), some (.int v1), some (.int v2), some (.int v3), d4] [] (xhp hi hl r) (xoI o) := by
  intro n
  induction n with
  | zero =>
    intro v1 v2 v3 d4 hi hl r o h
    have h : none = some o := h
    cases h
  | succ n ih =>
    intro v1 v2 v3 d4 hi hl r o h
    refine x_iload_n (pc' := 7) dX10_sortLines_6 rfl rfl ?_
    refine x_bipush (pc' := 9) (x := 16) dX10_sortLines_7 (by decide) rfl ?_
    refine xg_ite h (fun g1 h => ?_) (fun g1 h => ?_)
    · refine x_icmp_ge (tgt := 75) (pc' := 12) dX10_sortLines_9 (by decide) rfl (fun _ => ?_) (fun hn => absurd g1 hn)
      refine x_aload_n (pc' := 76) dX10_sortLines_75 rfl rfl ?_
      refine x_getr (pc' := 79) (t := 30) dX10_sortLines_76 f_X10_24 (by decide) rfl rfl rfl rfl ?_
      refine x_aload_n (pc' := 80) dX10_sortLines_79 rfl rfl ?_
      refine x_getr (pc' := 83) (t := 40) dX10_sortLines_80 f_X10_21 (by decide) rfl rfl rfl rfl ?_
      refine xg_bV h (fun hi3 hl3 r3 e2 h => ?_)
      refine x_callV (pc' := 86) (S := []) (As := [.ref 40]) (b' := (1, 0, 0)) dX10_sortLines_83 l_X10_59 m_X4_lieAs rfl rfl (show 30 < 122 by decide) rfl (Nat.le_of_ble_eq_true rfl) (Nat.le_of_ble_eq_true rfl) (Nat.le_of_ble_eq_true rfl) (Nat.le_of_ble_eq_true rfl) (r_X4_lieAs _ _ _ _ _ e2) rfl ?_
      refine x_iload_n (pc' := 87) dX10_sortLines_86 rfl rfl ?_
      obtain rfl := Option.some.inj h
      exact x_iret dX10_sortLines_87 rfl rfl (Nat.le_of_ble_eq_true rfl) rfl
    · refine x_icmp_ge (tgt := 75) (pc' := 12) dX10_sortLines_9 (by decide) rfl (fun hn => absurd hn g1) (fun _ => ?_)
      refine x_iconst (pc' := 13) (x := 0) dX10_sortLines_12 (by decide) rfl ?_
      refine x_istore (pc' := 15) (L' := [some (.ref 36), some (.int v1), some (.int v2), some (.int v3), some (.int (0 : Int32))]) dX10_sortLines_13 (Nat.le_of_ble_eq_true rfl) rfl rfl ?_
      exact r_X10_sortLines_15 (F_X10_sortLines_6 n) ih 1000000 _ _ _ _ _ _ _ _ h
def F_X10_sortLines (hi : Nat → Nat → Int32) (hl : Nat → Nat → Int64) (r : xRr) : Option (Int32 × xSt) := F_X10_sortLines_6 1000000 (0 : Int32) (0 : Int32) (0 : Int32) hi hl r
set_option maxRecDepth 20000 in
set_option maxHeartbeats 2000000 in
theorem r_X10_sortLines (hi : Nat → Nat → Int32) (hl : Nat → Nat → Int64) (r : xRr) (o : Int32 × xSt) (h : F_X10_sortLines hi hl r = some o) : xM yX10_sortLines cX10_sortLines 5 1 (2, 0, 0) z [.ref 36] (xhp hi hl r) (xoI o) := by
  refine x_meth2 (C := RX10) (ini := false) (L := [some (.ref 36), none, none, none, none]) rfl (by decide) (fun h9 => by cases h9) (by decide) (Nat.le_of_ble_eq_true rfl) rfl ?_
  refine x_iconst (pc' := 1) (x := 0) dX10_sortLines_0 (by decide) rfl ?_
  refine x_istore_n (pc' := 2) (L' := [some (.ref 36), some (.int (0 : Int32)), none, none, none]) dX10_sortLines_1 (Nat.le_of_ble_eq_true rfl) rfl rfl ?_
  refine x_iconst (pc' := 3) (x := 0) dX10_sortLines_2 (by decide) rfl ?_
  refine x_istore_n (pc' := 4) (L' := [some (.ref 36), some (.int (0 : Int32)), some (.int (0 : Int32)), none, none]) dX10_sortLines_3 (Nat.le_of_ble_eq_true rfl) rfl rfl ?_
  refine x_iconst (pc' := 5) (x := 0) dX10_sortLines_4 (by decide) rfl ?_
  refine x_istore_n (pc' := 6) (L' := [some (.ref 36), some (.int (0 : Int32)), some (.int (0 : Int32)), some (.int (0 : Int32)), none]) dX10_sortLines_5 (Nat.le_of_ble_eq_true rfl) rfl rfl ?_
  exact r_X10_sortLines_6 1000000 _ _ _ _ _ _ _ _ h
def F_X11_within (v0 : Int32) (v1 : Int32) (v2 : Int32) : Option (Int32) := if v0 < v1 then some (0 : Int32) else if v2 < v0 then some (0 : Int32) else some (1 : Int32)
set_option maxRecDepth 20000 in
set_option maxHeartbeats 2000000 in
theorem r_X11_within (v0 : Int32) (v1 : Int32) (v2 : Int32) (H : xHp) (o : Int32) (h : F_X11_within v0 v1 v2 = some o) : xM yX11_within cX11_within 3 3 (0, 0, 0) z [.int v0, .int v1, .int v2] H (some (.int o), H) := by
  refine x_meth2 (C := RX11) (ini := false) (L := [some (.int v0), some (.int v1), some (.int v2)]) rfl (by decide) (fun h9 => by cases h9) (by decide) (Nat.le_of_ble_eq_true rfl) rfl ?_
  refine x_iload_n (pc' := 1) dX11_within_0 rfl rfl ?_
  refine x_iload_n (pc' := 2) dX11_within_1 rfl rfl ?_
  refine xg_ite h (fun g1 h => ?_) (fun g1 h => ?_)
  · refine x_icmp_lt (tgt := 14) (pc' := 5) dX11_within_2 (by decide) rfl (fun _ => ?_) (fun hn => absurd g1 hn)
    refine x_iconst (pc' := 15) (x := 0) dX11_within_14 (by decide) rfl ?_
    obtain rfl := Option.some.inj h
    exact x_zret dX11_within_15 rfl (Or.inl rfl) rfl (Nat.le_of_ble_eq_true rfl) rfl
  · refine x_icmp_lt (tgt := 14) (pc' := 5) dX11_within_2 (by decide) rfl (fun hn => absurd hn g1) (fun _ => ?_)
    refine x_iload_n (pc' := 6) dX11_within_5 rfl rfl ?_
    refine x_iload_n (pc' := 7) dX11_within_6 rfl rfl ?_
    refine xg_ite h (fun g2 h => ?_) (fun g2 h => ?_)
    · refine x_icmp_gt (tgt := 14) (pc' := 10) dX11_within_7 (by decide) rfl (fun _ => ?_) (fun hn => absurd g2 hn)
      refine x_iconst (pc' := 15) (x := 0) dX11_within_14 (by decide) rfl ?_
      obtain rfl := Option.some.inj h
      exact x_zret dX11_within_15 rfl (Or.inl rfl) rfl (Nat.le_of_ble_eq_true rfl) rfl
    · refine x_icmp_gt (tgt := 14) (pc' := 10) dX11_within_7 (by decide) rfl (fun hn => absurd hn g2) (fun _ => ?_)
      refine x_iconst (pc' := 11) (x := 1) dX11_within_10 (by decide) rfl ?_
      refine x_goto (tgt := 15) dX11_within_11 (by decide) ?_
      obtain rfl := Option.some.inj h
      exact x_zret dX11_within_15 rfl (Or.inr rfl) rfl (Nat.le_of_ble_eq_true rfl) rfl
def F_X11_bank (v1 : Int32) (v2 : Int32) (hi : Nat → Nat → Int32) (hl : Nat → Nat → Int64) (r : xRr) : Option (Int32 × xSt) := xbP (F_X11_within v1 (0 : Int32) (12 : Int32)) (fun w2 => if w2 = 0 then some (((-1) : Int32), hi, hl, r) else xbP (F_X11_within v2 (1 : Int32) (12 : Int32)) (fun w5 => if w5 = 0 then some (((-1) : Int32), hi, hl, r) else if (hi 1 4) = (6 : Int32) then some (((-3) : Int32), hi, hl, r) else xbI (F_X0_addBank v1 v2 hi hl r) (fun w9 hi9 hl9 r9 => some (w9, hi9, hl9, r9))))
set_option maxRecDepth 20000 in
set_option maxHeartbeats 2000000 in
theorem r_X11_bank (v1 : Int32) (v2 : Int32) (hi : Nat → Nat → Int32) (hl : Nat → Nat → Int64) (r : xRr) (o : Int32 × xSt) (h : F_X11_bank v1 v2 hi hl r = some o) : xM yX11_bank cX11_bank 3 1 (1, 0, 0) z [.ref 0, .int v1, .int v2] (xhp hi hl r) (xoI o) := by
  refine x_meth2 (C := RX11) (ini := false) (L := [some (.ref 0), some (.int v1), some (.int v2)]) rfl (by decide) (fun h9 => by cases h9) (by decide) (Nat.le_of_ble_eq_true rfl) rfl ?_
  refine x_iload_n (pc' := 1) dX11_bank_0 rfl rfl ?_
  refine x_iconst (pc' := 2) (x := 0) dX11_bank_1 (by decide) rfl ?_
  refine x_bipush (pc' := 4) (x := 12) dX11_bank_2 (by decide) rfl ?_
  refine xg_bP h (fun w2 e1 h => ?_)
  refine x_callS (pc' := 7) (S := []) (As := [.int v1, .int (0 : Int32), .int (12 : Int32)]) (b' := (0, 0, 0)) dX11_bank_4 l_X11_100 m_X11_within rfl rfl (Nat.le_of_ble_eq_true rfl) (Nat.le_of_ble_eq_true rfl) (Nat.le_of_ble_eq_true rfl) (Nat.le_of_ble_eq_true rfl) (r_X11_within _ _ _ _ _ e1) rfl ?_
  refine xg_ite h (fun g3 h => ?_) (fun g3 h => ?_)
  · refine x_if_eq (tgt := 20) (pc' := 10) dX11_bank_7 (by decide) rfl (fun _ => ?_) (fun hn => absurd g3 hn)
    refine x_iconst (pc' := 21) (x := (-1)) dX11_bank_20 (by decide) rfl ?_
    obtain rfl := Option.some.inj h
    exact x_iret dX11_bank_21 rfl rfl (Nat.le_of_ble_eq_true rfl) rfl
  · refine x_if_eq (tgt := 20) (pc' := 10) dX11_bank_7 (by decide) rfl (fun hn => absurd hn g3) (fun _ => ?_)
    refine x_iload_n (pc' := 11) dX11_bank_10 rfl rfl ?_
    refine x_iconst (pc' := 12) (x := 1) dX11_bank_11 (by decide) rfl ?_
    refine x_bipush (pc' := 14) (x := 12) dX11_bank_12 (by decide) rfl ?_
    refine xg_bP h (fun w5 e4 h => ?_)
    refine x_callS (pc' := 17) (S := []) (As := [.int v2, .int (1 : Int32), .int (12 : Int32)]) (b' := (0, 0, 0)) dX11_bank_14 l_X11_100 m_X11_within rfl rfl (Nat.le_of_ble_eq_true rfl) (Nat.le_of_ble_eq_true rfl) (Nat.le_of_ble_eq_true rfl) (Nat.le_of_ble_eq_true rfl) (r_X11_within _ _ _ _ _ e4) rfl ?_
    refine xg_ite h (fun g6 h => ?_) (fun g6 h => ?_)
    · refine x_if_ne (tgt := 22) (pc' := 20) dX11_bank_17 (by decide) rfl (fun hn => absurd g6 hn) (fun _ => ?_)
      refine x_iconst (pc' := 21) (x := (-1)) dX11_bank_20 (by decide) rfl ?_
      obtain rfl := Option.some.inj h
      exact x_iret dX11_bank_21 rfl rfl (Nat.le_of_ble_eq_true rfl) rfl
    · refine x_if_ne (tgt := 22) (pc' := 20) dX11_bank_17 (by decide) rfl (fun _ => ?_) (fun hn => absurd hn g6)
      refine x_aload_n (pc' := 23) dX11_bank_22 rfl rfl ?_
      refine x_getr (pc' := 26) (t := 1) dX11_bank_23 f_X11_12 (by decide) rfl rfl rfl rfl ?_
      refine x_geti (pc' := 29) dX11_bank_26 f_X11_104 (by decide) rfl rfl rfl ?_
      refine x_bipush (pc' := 31) (x := 6) dX11_bank_29 (by decide) rfl ?_
      refine xg_ite h (fun g7 h => ?_) (fun g7 h => ?_)
      · refine x_icmp_ne (tgt := 37) (pc' := 34) dX11_bank_31 (by decide) rfl (fun hn => absurd g7 hn) (fun _ => ?_)
        refine x_bipush (pc' := 36) (x := (-3)) dX11_bank_34 (by decide) rfl ?_
        obtain rfl := Option.some.inj h
        exact x_iret dX11_bank_36 rfl rfl (Nat.le_of_ble_eq_true rfl) rfl
      · refine x_icmp_ne (tgt := 37) (pc' := 34) dX11_bank_31 (by decide) rfl (fun _ => ?_) (fun hn => absurd hn g7)
        refine x_aload_n (pc' := 38) dX11_bank_37 rfl rfl ?_
        refine x_getr (pc' := 41) (t := 1) dX11_bank_38 f_X11_12 (by decide) rfl rfl rfl rfl ?_
        refine x_iload_n (pc' := 42) dX11_bank_41 rfl rfl ?_
        refine x_iload_n (pc' := 43) dX11_bank_42 rfl rfl ?_
        refine xg_bI h (fun w9 hi9 hl9 r9 e8 h => ?_)
        refine x_callV (pc' := 46) (S := []) (As := [.int v1, .int v2]) (b' := (0, 0, 0)) dX11_bank_43 l_X11_108 m_X0_addBank rfl rfl (show 1 < 122 by decide) rfl (Nat.le_of_ble_eq_true rfl) (Nat.le_of_ble_eq_true rfl) (Nat.le_of_ble_eq_true rfl) (Nat.le_of_ble_eq_true rfl) (r_X0_addBank _ _ _ _ _ _ e8) rfl ?_
        obtain rfl := Option.some.inj h
        exact x_iret dX11_bank_46 rfl rfl (Nat.le_of_ble_eq_true rfl) rfl
def F_X11_view_28 (v1 : Int32) (v2 : Int32) (v3 : Int32) (v4 : Int32) (v5 : Int32) (s0 : Int32) (hi : Nat → Nat → Int32) (hl : Nat → Nat → Int64) (r : xRr) : Option (Int32 × xSt) := if s0 = 0 then some (((-1) : Int32), hi, hl, r) else xbP (F_X11_within v2 ((-20) : Int32) (20 : Int32)) (fun w3 => if w3 = 0 then some (((-1) : Int32), hi, hl, r) else xbP (F_X11_within v3 ((-3) : Int32) (3 : Int32)) (fun w6 => if w6 = 0 then some (((-1) : Int32), hi, hl, r) else xbP (F_X11_within v4 (1 : Int32) (12 : Int32)) (fun w9 => if w9 = 0 then some (((-1) : Int32), hi, hl, r) else xbP (F_X11_within v5 (0 : Int32) (8 : Int32)) (fun w12 => if w12 = 0 then some (((-1) : Int32), hi, hl, r) else if (hi 6 8) = (8 : Int32) then some (((-3) : Int32), hi, hl, r) else xbI (F_X8_depthUpon v1 hi hl r) (fun w16 hi16 hl16 r16 => if w16 ≤ (4 : Int32) then xbI (F_X8_addView v1 v2 v3 v4 v5 hi16 hl16 r16) (fun w19 hi19 hl19 r19 => some (w19, hi19, hl19, r19)) else some (((-3) : Int32), hi16, hl16, r16))))))
set_option maxRecDepth 20000 in
set_option maxHeartbeats 2000000 in
theorem r_X11_view_28 (v1 : Int32) (v2 : Int32) (v3 : Int32) (v4 : Int32) (v5 : Int32) (s0 : Int32) (d6 : Option Value) (hi : Nat → Nat → Int32) (hl : Nat → Nat → Int64) (r : xRr) (o : Int32 × xSt) (h : F_X11_view_28 v1 v2 v3 v4 v5 s0 hi hl r = some o) : xR (RX11, cX11_view, 7, false, 1) (2, 0, 0) z 0 0 28 [some (.ref 0), some (.int v1), some (.int v2), some (.int v3), some (.int v4), some (.int v5), d6] [.int s0] (xhp hi hl r) (xoI o) := by
  refine x_istore (pc' := 30) (L' := [some (.ref 0), some (.int v1), some (.int v2), some (.int v3), some (.int v4), some (.int v5), some (.int s0)]) dX11_view_28 (Nat.le_of_ble_eq_true rfl) rfl rfl ?_
  refine x_iload (pc' := 32) dX11_view_30 rfl rfl ?_
  refine xg_ite h (fun g1 h => ?_) (fun g1 h => ?_)
  · refine x_if_eq (tgt := 78) (pc' := 35) dX11_view_32 (by decide) rfl (fun _ => ?_) (fun hn => absurd g1 hn)
    refine x_iconst (pc' := 79) (x := (-1)) dX11_view_78 (by decide) rfl ?_
    obtain rfl := Option.some.inj h
    exact x_iret dX11_view_79 rfl rfl (Nat.le_of_ble_eq_true rfl) rfl
  · refine x_if_eq (tgt := 78) (pc' := 35) dX11_view_32 (by decide) rfl (fun hn => absurd hn g1) (fun _ => ?_)
    refine x_iload_n (pc' := 36) dX11_view_35 rfl rfl ?_
    refine x_bipush (pc' := 38) (x := (-20)) dX11_view_36 (by decide) rfl ?_
    refine x_bipush (pc' := 40) (x := 20) dX11_view_38 (by decide) rfl ?_
    refine xg_bP h (fun w3 e2 h => ?_)
    refine x_callS (pc' := 43) (S := []) (As := [.int v2, .int ((-20) : Int32), .int (20 : Int32)]) (b' := (0, 0, 0)) dX11_view_40 l_X11_100 m_X11_within rfl rfl (Nat.le_of_ble_eq_true rfl) (Nat.le_of_ble_eq_true rfl) (Nat.le_of_ble_eq_true rfl) (Nat.le_of_ble_eq_true rfl) (r_X11_within _ _ _ _ _ e2) rfl ?_
    refine xg_ite h (fun g4 h => ?_) (fun g4 h => ?_)
    · refine x_if_eq (tgt := 78) (pc' := 46) dX11_view_43 (by decide) rfl (fun _ => ?_) (fun hn => absurd g4 hn)
      refine x_iconst (pc' := 79) (x := (-1)) dX11_view_78 (by decide) rfl ?_
      obtain rfl := Option.some.inj h
      exact x_iret dX11_view_79 rfl rfl (Nat.le_of_ble_eq_true rfl) rfl
    · refine x_if_eq (tgt := 78) (pc' := 46) dX11_view_43 (by decide) rfl (fun hn => absurd hn g4) (fun _ => ?_)
      refine x_iload_n (pc' := 47) dX11_view_46 rfl rfl ?_
      refine x_bipush (pc' := 49) (x := (-3)) dX11_view_47 (by decide) rfl ?_
      refine x_iconst (pc' := 50) (x := 3) dX11_view_49 (by decide) rfl ?_
      refine xg_bP h (fun w6 e5 h => ?_)
      refine x_callS (pc' := 53) (S := []) (As := [.int v3, .int ((-3) : Int32), .int (3 : Int32)]) (b' := (0, 0, 0)) dX11_view_50 l_X11_100 m_X11_within rfl rfl (Nat.le_of_ble_eq_true rfl) (Nat.le_of_ble_eq_true rfl) (Nat.le_of_ble_eq_true rfl) (Nat.le_of_ble_eq_true rfl) (r_X11_within _ _ _ _ _ e5) rfl ?_
      refine xg_ite h (fun g7 h => ?_) (fun g7 h => ?_)
      · refine x_if_eq (tgt := 78) (pc' := 56) dX11_view_53 (by decide) rfl (fun _ => ?_) (fun hn => absurd g7 hn)
        refine x_iconst (pc' := 79) (x := (-1)) dX11_view_78 (by decide) rfl ?_
        obtain rfl := Option.some.inj h
        exact x_iret dX11_view_79 rfl rfl (Nat.le_of_ble_eq_true rfl) rfl
      · refine x_if_eq (tgt := 78) (pc' := 56) dX11_view_53 (by decide) rfl (fun hn => absurd hn g7) (fun _ => ?_)
        refine x_iload (pc' := 58) dX11_view_56 rfl rfl ?_
        refine x_iconst (pc' := 59) (x := 1) dX11_view_58 (by decide) rfl ?_
        refine x_bipush (pc' := 61) (x := 12) dX11_view_59 (by decide) rfl ?_
        refine xg_bP h (fun w9 e8 h => ?_)
        refine x_callS (pc' := 64) (S := []) (As := [.int v4, .int (1 : Int32), .int (12 : Int32)]) (b' := (0, 0, 0)) dX11_view_61 l_X11_100 m_X11_within rfl rfl (Nat.le_of_ble_eq_true rfl) (Nat.le_of_ble_eq_true rfl) (Nat.le_of_ble_eq_true rfl) (Nat.le_of_ble_eq_true rfl) (r_X11_within _ _ _ _ _ e8) rfl ?_
        refine xg_ite h (fun g10 h => ?_) (fun g10 h => ?_)
        · refine x_if_eq (tgt := 78) (pc' := 67) dX11_view_64 (by decide) rfl (fun _ => ?_) (fun hn => absurd g10 hn)
          refine x_iconst (pc' := 79) (x := (-1)) dX11_view_78 (by decide) rfl ?_
          obtain rfl := Option.some.inj h
          exact x_iret dX11_view_79 rfl rfl (Nat.le_of_ble_eq_true rfl) rfl
        · refine x_if_eq (tgt := 78) (pc' := 67) dX11_view_64 (by decide) rfl (fun hn => absurd hn g10) (fun _ => ?_)
          refine x_iload (pc' := 69) dX11_view_67 rfl rfl ?_
          refine x_iconst (pc' := 70) (x := 0) dX11_view_69 (by decide) rfl ?_
          refine x_bipush (pc' := 72) (x := 8) dX11_view_70 (by decide) rfl ?_
          refine xg_bP h (fun w12 e11 h => ?_)
          refine x_callS (pc' := 75) (S := []) (As := [.int v5, .int (0 : Int32), .int (8 : Int32)]) (b' := (0, 0, 0)) dX11_view_72 l_X11_100 m_X11_within rfl rfl (Nat.le_of_ble_eq_true rfl) (Nat.le_of_ble_eq_true rfl) (Nat.le_of_ble_eq_true rfl) (Nat.le_of_ble_eq_true rfl) (r_X11_within _ _ _ _ _ e11) rfl ?_
          refine xg_ite h (fun g13 h => ?_) (fun g13 h => ?_)
          · refine x_if_ne (tgt := 80) (pc' := 78) dX11_view_75 (by decide) rfl (fun hn => absurd g13 hn) (fun _ => ?_)
            refine x_iconst (pc' := 79) (x := (-1)) dX11_view_78 (by decide) rfl ?_
            obtain rfl := Option.some.inj h
            exact x_iret dX11_view_79 rfl rfl (Nat.le_of_ble_eq_true rfl) rfl
          · refine x_if_ne (tgt := 80) (pc' := 78) dX11_view_75 (by decide) rfl (fun _ => ?_) (fun hn => absurd hn g13)
            refine x_aload_n (pc' := 81) dX11_view_80 rfl rfl ?_
            refine x_getr (pc' := 84) (t := 6) dX11_view_81 f_X11_21 (by decide) rfl rfl rfl rfl ?_
            refine x_geti (pc' := 87) dX11_view_84 f_X11_119 (by decide) rfl rfl rfl ?_
            refine x_bipush (pc' := 89) (x := 8) dX11_view_87 (by decide) rfl ?_
            refine xg_ite h (fun g14 h => ?_) (fun g14 h => ?_)
            · refine x_icmp_eq (tgt := 104) (pc' := 92) dX11_view_89 (by decide) rfl (fun _ => ?_) (fun hn => absurd g14 hn)
              refine x_bipush (pc' := 106) (x := (-3)) dX11_view_104 (by decide) rfl ?_
              obtain rfl := Option.some.inj h
              exact x_iret dX11_view_106 rfl rfl (Nat.le_of_ble_eq_true rfl) rfl
            · refine x_icmp_eq (tgt := 104) (pc' := 92) dX11_view_89 (by decide) rfl (fun hn => absurd hn g14) (fun _ => ?_)
              refine x_aload_n (pc' := 93) dX11_view_92 rfl rfl ?_
              refine x_getr (pc' := 96) (t := 6) dX11_view_93 f_X11_21 (by decide) rfl rfl rfl rfl ?_
              refine x_iload_n (pc' := 97) dX11_view_96 rfl rfl ?_
              refine xg_bI h (fun w16 hi16 hl16 r16 e15 h => ?_)
              refine x_callV (pc' := 100) (S := []) (As := [.int v1]) (b' := (0, 0, 0)) dX11_view_97 l_X11_122 m_X8_depthUpon rfl rfl (show 6 < 122 by decide) rfl (Nat.le_of_ble_eq_true rfl) (Nat.le_of_ble_eq_true rfl) (Nat.le_of_ble_eq_true rfl) (Nat.le_of_ble_eq_true rfl) (r_X8_depthUpon _ _ _ _ _ e15) rfl ?_
              refine x_iconst (pc' := 101) (x := 4) dX11_view_100 (by decide) rfl ?_
              refine xg_ite h (fun g17 h => ?_) (fun g17 h => ?_)
              · refine x_icmp_le (tgt := 107) (pc' := 104) dX11_view_101 (by decide) rfl (fun _ => ?_) (fun hn => absurd g17 hn)
                refine x_aload_n (pc' := 108) dX11_view_107 rfl rfl ?_
                refine x_getr (pc' := 111) (t := 6) dX11_view_108 f_X11_21 (by decide) rfl rfl rfl rfl ?_
                refine x_iload_n (pc' := 112) dX11_view_111 rfl rfl ?_
                refine x_iload_n (pc' := 113) dX11_view_112 rfl rfl ?_
                refine x_iload_n (pc' := 114) dX11_view_113 rfl rfl ?_
                refine x_iload (pc' := 116) dX11_view_114 rfl rfl ?_
                refine x_iload (pc' := 118) dX11_view_116 rfl rfl ?_
                refine xg_bI h (fun w19 hi19 hl19 r19 e18 h => ?_)
                refine x_callV (pc' := 121) (S := []) (As := [.int v1, .int v2, .int v3, .int v4, .int v5]) (b' := (1, 0, 0)) dX11_view_118 l_X11_126 m_X8_addView rfl rfl (show 6 < 122 by decide) rfl (Nat.le_of_ble_eq_true rfl) (Nat.le_of_ble_eq_true rfl) (Nat.le_of_ble_eq_true rfl) (Nat.le_of_ble_eq_true rfl) (r_X8_addView _ _ _ _ _ _ _ _ _ e18) rfl ?_
                obtain rfl := Option.some.inj h
                exact x_iret dX11_view_121 rfl rfl (Nat.le_of_ble_eq_true rfl) rfl
              · refine x_icmp_le (tgt := 107) (pc' := 104) dX11_view_101 (by decide) rfl (fun hn => absurd hn g17) (fun _ => ?_)
                refine x_bipush (pc' := 106) (x := (-3)) dX11_view_104 (by decide) rfl ?_
                obtain rfl := Option.some.inj h
                exact x_iret dX11_view_106 rfl rfl (Nat.le_of_ble_eq_true rfl) rfl
def F_X11_view (v1 : Int32) (v2 : Int32) (v3 : Int32) (v4 : Int32) (v5 : Int32) (hi : Nat → Nat → Int32) (hl : Nat → Nat → Int64) (r : xRr) : Option (Int32 × xSt) := if (10 : Int32) ≤ v1 then xbI (F_X8_has (v1 - (10 : Int32)) hi hl r) (fun w3 hi3 hl3 r3 => F_X11_view_28 v1 v2 v3 v4 v5 w3 hi3 hl3 r3) else xbI (F_X0_hasBank v1 hi hl r) (fun w5 hi5 hl5 r5 => F_X11_view_28 v1 v2 v3 v4 v5 w5 hi5 hl5 r5)
set_option maxRecDepth 20000 in
set_option maxHeartbeats 2000000 in
theorem r_X11_view (v1 : Int32) (v2 : Int32) (v3 : Int32) (v4 : Int32) (v5 : Int32) (hi : Nat → Nat → Int32) (hl : Nat → Nat → Int64) (r : xRr) (o : Int32 × xSt) (h : F_X11_view v1 v2 v3 v4 v5 hi hl r = some o) : xM yX11_view cX11_view 7 1 (2, 0, 0) z [.ref 0, .int v1, .int v2, .int v3, .int v4, .int v5] (xhp hi hl r) (xoI o) := by
  refine x_meth2 (C := RX11) (ini := false) (L := [some (.ref 0), some (.int v1), some (.int v2), some (.int v3), some (.int v4), some (.int v5), none]) rfl (by decide) (fun h9 => by cases h9) (by decide) (Nat.le_of_ble_eq_true rfl) rfl ?_
  refine x_iload_n (pc' := 1) dX11_view_0 rfl rfl ?_
  refine x_bipush (pc' := 3) (x := 10) dX11_view_1 (by decide) rfl ?_
  refine xg_ite h (fun g1 h => ?_) (fun g1 h => ?_)
  · refine x_icmp_ge (tgt := 17) (pc' := 6) dX11_view_3 (by decide) rfl (fun _ => ?_) (fun hn => absurd g1 hn)
    refine x_aload_n (pc' := 18) dX11_view_17 rfl rfl ?_
    refine x_getr (pc' := 21) (t := 6) dX11_view_18 f_X11_21 (by decide) rfl rfl rfl rfl ?_
    refine x_iload_n (pc' := 22) dX11_view_21 rfl rfl ?_
    refine x_bipush (pc' := 24) (x := 10) dX11_view_22 (by decide) rfl ?_
    refine x_isub (pc' := 25) dX11_view_24 rfl ?_
    refine xg_bI h (fun w3 hi3 hl3 r3 e2 h => ?_)
    refine x_callV (pc' := 28) (S := []) (As := [.int (v1 - (10 : Int32))]) (b' := (0, 0, 0)) dX11_view_25 l_X11_116 m_X8_has rfl rfl (show 6 < 122 by decide) rfl (Nat.le_of_ble_eq_true rfl) (Nat.le_of_ble_eq_true rfl) (Nat.le_of_ble_eq_true rfl) (Nat.le_of_ble_eq_true rfl) (r_X8_has _ _ _ _ _ e2) rfl ?_
    exact r_X11_view_28 _ _ _ _ _ _ _ _ _ _ _ h
  · refine x_icmp_ge (tgt := 17) (pc' := 6) dX11_view_3 (by decide) rfl (fun hn => absurd hn g1) (fun _ => ?_)
    refine x_aload_n (pc' := 7) dX11_view_6 rfl rfl ?_
    refine x_getr (pc' := 10) (t := 1) dX11_view_7 f_X11_12 (by decide) rfl rfl rfl rfl ?_
    refine x_iload_n (pc' := 11) dX11_view_10 rfl rfl ?_
    refine xg_bI h (fun w5 hi5 hl5 r5 e4 h => ?_)
    refine x_callV (pc' := 14) (S := []) (As := [.int v1]) (b' := (0, 0, 0)) dX11_view_11 l_X11_112 m_X0_hasBank rfl rfl (show 1 < 122 by decide) rfl (Nat.le_of_ble_eq_true rfl) (Nat.le_of_ble_eq_true rfl) (Nat.le_of_ble_eq_true rfl) (Nat.le_of_ble_eq_true rfl) (r_X0_hasBank _ _ _ _ _ e4) rfl ?_
    refine x_goto (tgt := 28) dX11_view_14 (by decide) ?_
    exact r_X11_view_28 _ _ _ _ _ _ _ _ _ _ _ h
def F_X11_clear_80 : Nat → Int32 → Int32 → (Nat → Nat → Int32) → (Nat → Nat → Int64) → xRr → Option (Int32 × xSt)
  | 0, _, _, _, _, _ => none
  | n + 1, v1, v2, hi, hl, r => if (7 : Int32) ≤ v2 then some (v1, hi, hl, r) else if xok v2 7 = true then (F_X11_clear_80 n) v1 (v2 + (1)) (xu (xu hi 87 (Int32.toNatClampNeg v2) (0 : Int32)) 88 (Int32.toNatClampNeg v2) (0 : Int32)) hl r else none
set_option maxRecDepth 20000 in
set_option maxHeartbeats 2000000 in
theorem r_X11_clear_80 : ∀ (n : Nat) (v1 : Int32) (v2 : Int32) (hi : Nat → Nat → Int32) (hl : Nat → Nat → Int64) (r : xRr) (o : Int32 × xSt), F_X11_clear_80 n v1 v2 hi hl r = some o → xR (RX11, cX11_clear, 3, false, 1) (3, 0, 0) z 0 0 80 [some (.ref 0), some (.int v1), some (.int v2)] [] (xhp hi hl r) (xoI o) := by
  intro n
  induction n with
  | zero =>
    intro v1 v2 hi hl r o h
    have h : none = some o := h
    cases h
  | succ n ih =>
    intro v1 v2 hi hl r o h
    refine x_iload_n (pc' := 81) dX11_clear_80 rfl rfl ?_
    refine x_bipush (pc' := 83) (x := 7) dX11_clear_81 (by decide) rfl ?_
    refine xg_ite h (fun g1 h => ?_) (fun g1 h => ?_)
    · refine x_icmp_ge (tgt := 106) (pc' := 86) dX11_clear_83 (by decide) rfl (fun _ => ?_) (fun hn => absurd g1 hn)
      refine x_iload_n (pc' := 107) dX11_clear_106 rfl rfl ?_
      obtain rfl := Option.some.inj h
      exact x_iret dX11_clear_107 rfl rfl (Nat.le_of_ble_eq_true rfl) rfl
    · refine x_icmp_ge (tgt := 106) (pc' := 86) dX11_clear_83 (by decide) rfl (fun hn => absurd hn g1) (fun _ => ?_)
      refine x_aload_n (pc' := 87) dX11_clear_86 rfl rfl ?_
      refine x_getr (pc' := 90) (t := 87) dX11_clear_87 f_X11_90 (by decide) rfl rfl rfl rfl ?_
      refine x_iload_n (pc' := 91) dX11_clear_90 rfl rfl ?_
      refine x_iconst (pc' := 92) (x := 0) dX11_clear_91 (by decide) rfl ?_
      refine xg_if h (fun g2 h => ?_)
      refine x_iast (pc' := 93) dX11_clear_92 (by decide) rfl (xok_in g2) rfl ?_
      refine x_aload_n (pc' := 94) dX11_clear_93 rfl rfl ?_
      refine x_getr (pc' := 97) (t := 88) dX11_clear_94 f_X11_94 (by decide) rfl rfl rfl rfl ?_
      refine x_iload_n (pc' := 98) dX11_clear_97 rfl rfl ?_
      refine x_iconst (pc' := 99) (x := 0) dX11_clear_98 (by decide) rfl ?_
      refine x_iast (pc' := 100) dX11_clear_99 (by decide) rfl (xok_in g2) rfl ?_
      refine x_iinc (pc' := 103) (v := (v2 + (1))) (L' := [some (.ref 0), some (.int v1), some (.int (v2 + (1)))]) dX11_clear_100 rfl rfl (Nat.le_of_ble_eq_true rfl) rfl rfl ?_
      refine x_goto (tgt := 80) dX11_clear_103 (by decide) ?_
      exact ih _ _ _ _ _ _ h
def F_X11_clear_40 : Nat → Int32 → Int32 → (Nat → Nat → Int32) → (Nat → Nat → Int64) → xRr → Option (Int32 × xSt)
  | 0, _, _, _, _, _ => none
  | n + 1, v1, v2, hi, hl, r => if (2 : Int32) ≤ v2 then xbI (F_X7_lose hi hl r) (fun w3 hi3 hl3 r3 => xbV (F_X6_become 85 (10 : Int32) (0 : Int64) hi3 hl3 r3) (fun hi5 hl5 r5 => F_X11_clear_80 1000000 v1 (0 : Int32) hi5 hl5 r5)) else if xok v2 2 = true then xbO (xhr r 76 (Int32.toNatClampNeg v2)) (fun t7 => if xisO t7 2 = true then xbV (F_X2_lose t7 hi hl r) (fun hi10 hl10 r10 => (F_X11_clear_40 n) v1 (v2 + (1)) hi10 hl10 r10) else none) else none
set_option maxRecDepth 20000 in
set_option maxHeartbeats 2000000 in
theorem r_X11_clear_40 : ∀ (n : Nat) (v1 : Int32) (v2 : Int32) (hi : Nat → Nat → Int32) (hl : Nat → Nat → Int64) (r : xRr) (o : Int32 × xSt), F_X11_clear_40 n v1 v2 hi hl r = some o → xR (RX11, cX11_clear, 3, false, 1) (3, 0, 0) z 0 0 40 [some (.ref 0), some (.int v1), some (.int v2)] [] (xhp hi hl r) (xoI o) := by
  intro n
  induction n with
  | zero =>
    intro v1 v2 hi hl r o h
    have h : none = some o := h
    cases h
  | succ n ih =>
    intro v1 v2 hi hl r o h
    refine x_iload_n (pc' := 41) dX11_clear_40 rfl rfl ?_
    refine x_iconst (pc' := 42) (x := 2) dX11_clear_41 (by decide) rfl ?_
    refine xg_ite h (fun g1 h => ?_) (fun g1 h => ?_)
    · refine x_icmp_ge (tgt := 60) (pc' := 45) dX11_clear_42 (by decide) rfl (fun _ => ?_) (fun hn => absurd g1 hn)
      refine x_aload_n (pc' := 61) dX11_clear_60 rfl rfl ?_
      refine x_getr (pc' := 64) (t := 83) dX11_clear_61 f_X11_76 (by decide) rfl rfl rfl rfl ?_
      refine xg_bI h (fun w3 hi3 hl3 r3 e2 h => ?_)
      refine x_callV (pc' := 67) (S := []) (As := []) (b' := (0, 0, 0)) dX11_clear_64 l_X11_137 m_X7_lose rfl rfl (show 83 < 122 by decide) rfl (Nat.le_of_ble_eq_true rfl) (Nat.le_of_ble_eq_true rfl) (Nat.le_of_ble_eq_true rfl) (Nat.le_of_ble_eq_true rfl) (r_X7_lose _ _ _ _ e2) rfl ?_
      refine x_pop (pc' := 68) dX11_clear_67 rfl rfl ?_
      refine x_aload_n (pc' := 69) dX11_clear_68 rfl rfl ?_
      refine x_getr (pc' := 72) (t := 85) dX11_clear_69 f_X11_83 (by decide) rfl rfl rfl rfl ?_
      refine x_bipush (pc' := 74) (x := 10) dX11_clear_72 (by decide) rfl ?_
      refine x_lconst (pc' := 75) (x := 0) dX11_clear_74 (by decide) rfl ?_
      refine xg_bV h (fun hi5 hl5 r5 e4 h => ?_)
      refine x_callV (pc' := 78) (S := []) (As := [.int (10 : Int32), .long (0 : Int64)]) (b' := (2, 0, 0)) dX11_clear_75 l_X11_140 m_X6_become rfl rfl (show 85 < 122 by decide) rfl (Nat.le_of_ble_eq_true rfl) (Nat.le_of_ble_eq_true rfl) (Nat.le_of_ble_eq_true rfl) (Nat.le_of_ble_eq_true rfl) (r_X6_become _ _ _ _ _ _ _ e4) rfl ?_
      refine x_iconst (pc' := 79) (x := 0) dX11_clear_78 (by decide) rfl ?_
      refine x_istore_n (pc' := 80) (L' := [some (.ref 0), some (.int v1), some (.int (0 : Int32))]) dX11_clear_79 (Nat.le_of_ble_eq_true rfl) rfl rfl ?_
      exact r_X11_clear_80 1000000 _ _ _ _ _ _ h
    · refine x_icmp_ge (tgt := 60) (pc' := 45) dX11_clear_42 (by decide) rfl (fun hn => absurd hn g1) (fun _ => ?_)
      refine x_aload_n (pc' := 46) dX11_clear_45 rfl rfl ?_
      refine x_getr (pc' := 49) (t := 76) dX11_clear_46 f_X11_68 (by decide) rfl rfl rfl rfl ?_
      refine x_iload_n (pc' := 50) dX11_clear_49 rfl rfl ?_
      refine xg_if h (fun g6 h => ?_)
      refine xg_bO h (fun t7 e8 h => ?_)
      refine x_aald3 (pc' := 51) (t := t7) dX11_clear_50 (by decide) rfl (xok_in g6) e8 rfl ?_
      refine xg_if h (fun g11 h => ?_)
      refine xg_bV h (fun hi10 hl10 r10 e9 h => ?_)
      refine x_callV (pc' := 54) (S := []) (As := []) (b' := (0, 0, 0)) dX11_clear_51 l_X11_136 m_X2_lose rfl rfl (xisO_lt g11) (xisO_sh g11) (Nat.le_of_ble_eq_true rfl) (Nat.le_of_ble_eq_true rfl) (Nat.le_of_ble_eq_true rfl) (Nat.le_of_ble_eq_true rfl) (r_X2_lose _ _ _ _ _ e9) rfl ?_
      refine x_iinc (pc' := 57) (v := (v2 + (1))) (L' := [some (.ref 0), some (.int v1), some (.int (v2 + (1)))]) dX11_clear_54 rfl rfl (Nat.le_of_ble_eq_true rfl) rfl rfl ?_
      refine x_goto (tgt := 40) dX11_clear_57 (by decide) ?_
      exact ih _ _ _ _ _ _ h
def F_X11_clear (hi : Nat → Nat → Int32) (hl : Nat → Nat → Int64) (r : xRr) : Option (Int32 × xSt) := xbV (F_X4_empty (xu (xu hi 1 4 (0 : Int32)) 6 8 (0 : Int32)) hl r) (fun hi2 hl2 r2 => xbV (F_X1_lose hi2 hl2 r2) (fun hi4 hl4 r4 => F_X11_clear_40 1000000 (hi 1 4) (0 : Int32) hi4 hl4 r4))
set_option maxRecDepth 20000 in
set_option maxHeartbeats 2000000 in
theorem r_X11_clear (hi : Nat → Nat → Int32) (hl : Nat → Nat → Int64) (r : xRr) (o : Int32 × xSt) (h : F_X11_clear hi hl r = some o) : xM yX11_clear cX11_clear 3 1 (3, 0, 0) z [.ref 0] (xhp hi hl r) (xoI o) := by
  refine x_meth2 (C := RX11) (ini := false) (L := [some (.ref 0), none, none]) rfl (by decide) (fun h9 => by cases h9) (by decide) (Nat.le_of_ble_eq_true rfl) rfl ?_
  refine x_aload_n (pc' := 1) dX11_clear_0 rfl rfl ?_
  refine x_getr (pc' := 4) (t := 1) dX11_clear_1 f_X11_12 (by decide) rfl rfl rfl rfl ?_
  refine x_geti (pc' := 7) dX11_clear_4 f_X11_104 (by decide) rfl rfl rfl ?_
  refine x_istore_n (pc' := 8) (L' := [some (.ref 0), some (.int (hi 1 4)), none]) dX11_clear_7 (Nat.le_of_ble_eq_true rfl) rfl rfl ?_
  refine x_aload_n (pc' := 9) dX11_clear_8 rfl rfl ?_
  refine x_getr (pc' := 12) (t := 1) dX11_clear_9 f_X11_12 (by decide) rfl rfl rfl rfl ?_
  refine x_iconst (pc' := 13) (x := 0) dX11_clear_12 (by decide) rfl ?_
  refine x_puti (pc' := 16) dX11_clear_13 f_X11_104 (Or.inl rfl) (by decide) rfl rfl rfl ?_
  refine x_aload_n (pc' := 17) dX11_clear_16 rfl rfl ?_
  refine x_getr (pc' := 20) (t := 6) dX11_clear_17 f_X11_21 (by decide) rfl rfl rfl rfl ?_
  refine x_iconst (pc' := 21) (x := 0) dX11_clear_20 (by decide) rfl ?_
  refine x_puti (pc' := 24) dX11_clear_21 f_X11_119 (Or.inl rfl) (by decide) rfl rfl rfl ?_
  refine x_aload_n (pc' := 25) dX11_clear_24 rfl rfl ?_
  refine x_getr (pc' := 28) (t := 30) dX11_clear_25 f_X11_37 (by decide) rfl rfl rfl rfl ?_
  refine xg_bV h (fun hi2 hl2 r2 e1 h => ?_)
  refine x_callV (pc' := 31) (S := []) (As := []) (b' := (0, 0, 0)) dX11_clear_28 l_X11_130 m_X4_empty rfl rfl (show 30 < 122 by decide) rfl (Nat.le_of_ble_eq_true rfl) (Nat.le_of_ble_eq_true rfl) (Nat.le_of_ble_eq_true rfl) (Nat.le_of_ble_eq_true rfl) (r_X4_empty _ _ _ _ e1) rfl ?_
  refine x_aload_n (pc' := 32) dX11_clear_31 rfl rfl ?_
  refine x_getr (pc' := 35) (t := 41) dX11_clear_32 f_X11_62 (by decide) rfl rfl rfl rfl ?_
  refine xg_bV h (fun hi4 hl4 r4 e3 h => ?_)
  refine x_callV (pc' := 38) (S := []) (As := []) (b' := (0, 0, 0)) dX11_clear_35 l_X11_133 m_X1_lose rfl rfl (show 41 < 122 by decide) rfl (Nat.le_of_ble_eq_true rfl) (Nat.le_of_ble_eq_true rfl) (Nat.le_of_ble_eq_true rfl) (Nat.le_of_ble_eq_true rfl) (r_X1_lose _ _ _ _ e3) rfl ?_
  refine x_iconst (pc' := 39) (x := 0) dX11_clear_38 (by decide) rfl ?_
  refine x_istore_n (pc' := 40) (L' := [some (.ref 0), some (.int (hi 1 4)), some (.int (0 : Int32))]) dX11_clear_39 (Nat.le_of_ble_eq_true rfl) rfl rfl ?_
  exact r_X11_clear_40 1000000 _ _ _ _ _ _ h
def F_X11_isPlace (v0 : Int32) : Option (Int32) := xbP (F_X11_within v0 (0 : Int32) (11 : Int32)) (fun w2 => if w2 = 0 ∨ w2 = 1 then some w2 else none)
set_option maxRecDepth 20000 in
set_option maxHeartbeats 2000000 in
theorem r_X11_isPlace (v0 : Int32) (H : xHp) (o : Int32) (h : F_X11_isPlace v0 = some o) : xM yX11_isPlace cX11_isPlace 1 3 (1, 0, 0) z [.int v0] H (some (.int o), H) := by
  refine x_meth2 (C := RX11) (ini := false) (L := [some (.int v0)]) rfl (by decide) (fun h9 => by cases h9) (by decide) (Nat.le_of_ble_eq_true rfl) rfl ?_
  refine x_iload_n (pc' := 1) dX11_isPlace_0 rfl rfl ?_
  refine x_iconst (pc' := 2) (x := 0) dX11_isPlace_1 (by decide) rfl ?_
  refine x_bipush (pc' := 4) (x := 11) dX11_isPlace_2 (by decide) rfl ?_
  refine xg_bP h (fun w2 e1 h => ?_)
  refine x_callS (pc' := 7) (S := []) (As := [.int v0, .int (0 : Int32), .int (11 : Int32)]) (b' := (0, 0, 0)) dX11_isPlace_4 l_X11_100 m_X11_within rfl rfl (Nat.le_of_ble_eq_true rfl) (Nat.le_of_ble_eq_true rfl) (Nat.le_of_ble_eq_true rfl) (Nat.le_of_ble_eq_true rfl) (r_X11_within _ _ _ _ _ e1) rfl ?_
  refine xg_or h (fun g3 h => ?_)
  obtain rfl := Option.some.inj h
  exact x_zret dX11_isPlace_7 rfl g3 rfl (Nat.le_of_ble_eq_true rfl) rfl
def F_X11_reads (v1 : Int32) (v2 : Int32) (hi : Nat → Nat → Int32) (hl : Nat → Nat → Int64) (r : xRr) : Option (Int32 × xSt) := xbI (F_X8_has v1 hi hl r) (fun w2 hi2 hl2 r2 => if w2 = 0 then some (((-1) : Int32), hi2, hl2, r2) else xbP (F_X11_isPlace v2) (fun w5 => if w5 = 0 then some (((-1) : Int32), hi2, hl2, r2) else xbI (F_X5_take v1 v2 86 hi2 hl2 r2) (fun w8 hi8 hl8 r8 => if w8 = 0 then xbV (F_X6_become 85 (hi8 86 0) (hl8 86 1) hi8 hl8 r8) (fun hi11 hl11 r11 => some (w8, hi11, hl11, r11)) else some (w8, hi8, hl8, r8))))
set_option maxRecDepth 20000 in
set_option maxHeartbeats 2000000 in
theorem r_X11_reads (v1 : Int32) (v2 : Int32) (hi : Nat → Nat → Int32) (hl : Nat → Nat → Int64) (r : xRr) (o : Int32 × xSt) (h : F_X11_reads v1 v2 hi hl r = some o) : xM yX11_reads cX11_reads 4 1 (5, 0, 0) z [.ref 0, .int v1, .int v2] (xhp hi hl r) (xoI o) := by
  refine x_meth2 (C := RX11) (ini := false) (L := [some (.ref 0), some (.int v1), some (.int v2), none]) rfl (by decide) (fun h9 => by cases h9) (by decide) (Nat.le_of_ble_eq_true rfl) rfl ?_
  refine x_aload_n (pc' := 1) dX11_reads_0 rfl rfl ?_
  refine x_getr (pc' := 4) (t := 6) dX11_reads_1 f_X11_21 (by decide) rfl rfl rfl rfl ?_
  refine x_iload_n (pc' := 5) dX11_reads_4 rfl rfl ?_
  refine xg_bI h (fun w2 hi2 hl2 r2 e1 h => ?_)
  refine x_callV (pc' := 8) (S := []) (As := [.int v1]) (b' := (0, 0, 0)) dX11_reads_5 l_X11_116 m_X8_has rfl rfl (show 6 < 122 by decide) rfl (Nat.le_of_ble_eq_true rfl) (Nat.le_of_ble_eq_true rfl) (Nat.le_of_ble_eq_true rfl) (Nat.le_of_ble_eq_true rfl) (r_X8_has _ _ _ _ _ e1) rfl ?_
  refine xg_ite h (fun g3 h => ?_) (fun g3 h => ?_)
  · refine x_if_eq (tgt := 18) (pc' := 11) dX11_reads_8 (by decide) rfl (fun _ => ?_) (fun hn => absurd g3 hn)
    refine x_iconst (pc' := 19) (x := (-1)) dX11_reads_18 (by decide) rfl ?_
    obtain rfl := Option.some.inj h
    exact x_iret dX11_reads_19 rfl rfl (Nat.le_of_ble_eq_true rfl) rfl
  · refine x_if_eq (tgt := 18) (pc' := 11) dX11_reads_8 (by decide) rfl (fun hn => absurd hn g3) (fun _ => ?_)
    refine x_iload_n (pc' := 12) dX11_reads_11 rfl rfl ?_
    refine xg_bP h (fun w5 e4 h => ?_)
    refine x_callS (pc' := 15) (S := []) (As := [.int v2]) (b' := (1, 0, 0)) dX11_reads_12 l_X11_144 m_X11_isPlace rfl rfl (Nat.le_of_ble_eq_true rfl) (Nat.le_of_ble_eq_true rfl) (Nat.le_of_ble_eq_true rfl) (Nat.le_of_ble_eq_true rfl) (r_X11_isPlace _ _ _ e4) rfl ?_
    refine xg_ite h (fun g6 h => ?_) (fun g6 h => ?_)
    · refine x_if_ne (tgt := 20) (pc' := 18) dX11_reads_15 (by decide) rfl (fun hn => absurd g6 hn) (fun _ => ?_)
      refine x_iconst (pc' := 19) (x := (-1)) dX11_reads_18 (by decide) rfl ?_
      obtain rfl := Option.some.inj h
      exact x_iret dX11_reads_19 rfl rfl (Nat.le_of_ble_eq_true rfl) rfl
    · refine x_if_ne (tgt := 20) (pc' := 18) dX11_reads_15 (by decide) rfl (fun _ => ?_) (fun hn => absurd hn g6)
      refine x_aload_n (pc' := 21) dX11_reads_20 rfl rfl ?_
      refine x_getr (pc' := 24) (t := 14) dX11_reads_21 f_X11_30 (by decide) rfl rfl rfl rfl ?_
      refine x_iload_n (pc' := 25) dX11_reads_24 rfl rfl ?_
      refine x_iload_n (pc' := 26) dX11_reads_25 rfl rfl ?_
      refine x_aload_n (pc' := 27) dX11_reads_26 rfl rfl ?_
      refine x_getr (pc' := 30) (t := 86) dX11_reads_27 f_X11_87 (by decide) rfl rfl rfl rfl ?_
      refine xg_bI h (fun w8 hi8 hl8 r8 e7 h => ?_)
      refine x_callV (pc' := 33) (S := []) (As := [.int v1, .int v2, .ref 86]) (b' := (4, 0, 0)) dX11_reads_30 l_X11_147 m_X5_take rfl rfl (show 14 < 122 by decide) rfl (Nat.le_of_ble_eq_true rfl) (Nat.le_of_ble_eq_true rfl) (Nat.le_of_ble_eq_true rfl) (Nat.le_of_ble_eq_true rfl) (r_X5_take _ _ _ _ _ _ _ e7) rfl ?_
      refine x_istore_n (pc' := 34) (L' := [some (.ref 0), some (.int v1), some (.int v2), some (.int w8)]) dX11_reads_33 (Nat.le_of_ble_eq_true rfl) rfl rfl ?_
      refine x_iload_n (pc' := 35) dX11_reads_34 rfl rfl ?_
      refine xg_ite h (fun g9 h => ?_) (fun g9 h => ?_)
      · refine x_if_ne (tgt := 59) (pc' := 38) dX11_reads_35 (by decide) rfl (fun hn => absurd g9 hn) (fun _ => ?_)
        refine x_aload_n (pc' := 39) dX11_reads_38 rfl rfl ?_
        refine x_getr (pc' := 42) (t := 85) dX11_reads_39 f_X11_83 (by decide) rfl rfl rfl rfl ?_
        refine x_aload_n (pc' := 43) dX11_reads_42 rfl rfl ?_
        refine x_getr (pc' := 46) (t := 86) dX11_reads_43 f_X11_87 (by decide) rfl rfl rfl rfl ?_
        refine x_geti (pc' := 49) dX11_reads_46 f_X11_151 (by decide) rfl rfl rfl ?_
        refine x_aload_n (pc' := 50) dX11_reads_49 rfl rfl ?_
        refine x_getr (pc' := 53) (t := 86) dX11_reads_50 f_X11_87 (by decide) rfl rfl rfl rfl ?_
        refine x_getl (pc' := 56) dX11_reads_53 f_X11_154 (by decide) rfl rfl rfl ?_
        refine xg_bV h (fun hi11 hl11 r11 e10 h => ?_)
        refine x_callV (pc' := 59) (S := []) (As := [.int (hi8 86 0), .long (hl8 86 1)]) (b' := (2, 0, 0)) dX11_reads_56 l_X11_140 m_X6_become rfl rfl (show 85 < 122 by decide) rfl (Nat.le_of_ble_eq_true rfl) (Nat.le_of_ble_eq_true rfl) (Nat.le_of_ble_eq_true rfl) (Nat.le_of_ble_eq_true rfl) (r_X6_become _ _ _ _ _ _ _ e10) rfl ?_
        refine x_iload_n (pc' := 60) dX11_reads_59 rfl rfl ?_
        obtain rfl := Option.some.inj h
        exact x_iret dX11_reads_60 rfl rfl (Nat.le_of_ble_eq_true rfl) rfl
      · refine x_if_ne (tgt := 59) (pc' := 38) dX11_reads_35 (by decide) rfl (fun _ => ?_) (fun hn => absurd hn g9)
        refine x_iload_n (pc' := 60) dX11_reads_59 rfl rfl ?_
        obtain rfl := Option.some.inj h
        exact x_iret dX11_reads_60 rfl rfl (Nat.le_of_ble_eq_true rfl) rfl
def F_X11_looks (v1 : Int32) (v2 : Int32) (hi : Nat → Nat → Int32) (hl : Nat → Nat → Int64) (r : xRr) : Option (Int32 × xSt) := xbI (F_X0_hasBank v1 hi hl r) (fun w2 hi2 hl2 r2 => if w2 = 0 then some (((-1) : Int32), hi2, hl2, r2) else xbP (F_X11_isPlace v2) (fun w5 => if w5 = 0 then some (((-1) : Int32), hi2, hl2, r2) else if xok v1 6 = true then if (hi2 2 (Int32.toNatClampNeg v1)) = (11 : Int32) then some (((-5) : Int32), hi2, hl2, r2) else if (hi2 2 (Int32.toNatClampNeg v1)) = (12 : Int32) then some (((-6) : Int32), hi2, hl2, r2) else xbI (F_X0_hasCell v1 v2 hi2 hl2 r2) (fun w11 hi11 hl11 r11 => if w11 = 0 then some (((-8) : Int32), hi11, hl11, r11) else xbV (F_X0_fetch v1 v2 85 hi11 hl11 r11) (fun hi14 hl14 r14 => some ((0 : Int32), hi14, hl14, r14))) else none))
set_option maxRecDepth 20000 in
set_option maxHeartbeats 2000000 in
theorem r_X11_looks (v1 : Int32) (v2 : Int32) (hi : Nat → Nat → Int32) (hl : Nat → Nat → Int64) (r : xRr) (o : Int32 × xSt) (h : F_X11_looks v1 v2 hi hl r = some o) : xM yX11_looks cX11_looks 3 1 (4, 0, 0) z [.ref 0, .int v1, .int v2] (xhp hi hl r) (xoI o) := by
  refine x_meth2 (C := RX11) (ini := false) (L := [some (.ref 0), some (.int v1), some (.int v2)]) rfl (by decide) (fun h9 => by cases h9) (by decide) (Nat.le_of_ble_eq_true rfl) rfl ?_
  refine x_aload_n (pc' := 1) dX11_looks_0 rfl rfl ?_
  refine x_getr (pc' := 4) (t := 1) dX11_looks_1 f_X11_12 (by decide) rfl rfl rfl rfl ?_
  refine x_iload_n (pc' := 5) dX11_looks_4 rfl rfl ?_
  refine xg_bI h (fun w2 hi2 hl2 r2 e1 h => ?_)
  refine x_callV (pc' := 8) (S := []) (As := [.int v1]) (b' := (0, 0, 0)) dX11_looks_5 l_X11_112 m_X0_hasBank rfl rfl (show 1 < 122 by decide) rfl (Nat.le_of_ble_eq_true rfl) (Nat.le_of_ble_eq_true rfl) (Nat.le_of_ble_eq_true rfl) (Nat.le_of_ble_eq_true rfl) (r_X0_hasBank _ _ _ _ _ e1) rfl ?_
  refine xg_ite h (fun g3 h => ?_) (fun g3 h => ?_)
  · refine x_if_eq (tgt := 18) (pc' := 11) dX11_looks_8 (by decide) rfl (fun _ => ?_) (fun hn => absurd g3 hn)
    refine x_iconst (pc' := 19) (x := (-1)) dX11_looks_18 (by decide) rfl ?_
    obtain rfl := Option.some.inj h
    exact x_iret dX11_looks_19 rfl rfl (Nat.le_of_ble_eq_true rfl) rfl
  · refine x_if_eq (tgt := 18) (pc' := 11) dX11_looks_8 (by decide) rfl (fun hn => absurd hn g3) (fun _ => ?_)
    refine x_iload_n (pc' := 12) dX11_looks_11 rfl rfl ?_
    refine xg_bP h (fun w5 e4 h => ?_)
    refine x_callS (pc' := 15) (S := []) (As := [.int v2]) (b' := (1, 0, 0)) dX11_looks_12 l_X11_144 m_X11_isPlace rfl rfl (Nat.le_of_ble_eq_true rfl) (Nat.le_of_ble_eq_true rfl) (Nat.le_of_ble_eq_true rfl) (Nat.le_of_ble_eq_true rfl) (r_X11_isPlace _ _ _ e4) rfl ?_
    refine xg_ite h (fun g6 h => ?_) (fun g6 h => ?_)
    · refine x_if_ne (tgt := 20) (pc' := 18) dX11_looks_15 (by decide) rfl (fun hn => absurd g6 hn) (fun _ => ?_)
      refine x_iconst (pc' := 19) (x := (-1)) dX11_looks_18 (by decide) rfl ?_
      obtain rfl := Option.some.inj h
      exact x_iret dX11_looks_19 rfl rfl (Nat.le_of_ble_eq_true rfl) rfl
    · refine x_if_ne (tgt := 20) (pc' := 18) dX11_looks_15 (by decide) rfl (fun _ => ?_) (fun hn => absurd hn g6)
      refine x_aload_n (pc' := 21) dX11_looks_20 rfl rfl ?_
      refine x_getr (pc' := 24) (t := 1) dX11_looks_21 f_X11_12 (by decide) rfl rfl rfl rfl ?_
      refine x_getr (pc' := 27) (t := 2) dX11_looks_24 f_X11_158 (by decide) rfl rfl rfl rfl ?_
      refine x_iload_n (pc' := 28) dX11_looks_27 rfl rfl ?_
      refine xg_if h (fun g7 h => ?_)
      refine x_iald (pc' := 29) dX11_looks_28 (by decide) rfl (xok_in g7) rfl ?_
      refine x_bipush (pc' := 31) (x := 11) dX11_looks_29 (by decide) rfl ?_
      refine xg_ite h (fun g8 h => ?_) (fun g8 h => ?_)
      · refine x_icmp_ne (tgt := 37) (pc' := 34) dX11_looks_31 (by decide) rfl (fun hn => absurd g8 hn) (fun _ => ?_)
        refine x_bipush (pc' := 36) (x := (-5)) dX11_looks_34 (by decide) rfl ?_
        obtain rfl := Option.some.inj h
        exact x_iret dX11_looks_36 rfl rfl (Nat.le_of_ble_eq_true rfl) rfl
      · refine x_icmp_ne (tgt := 37) (pc' := 34) dX11_looks_31 (by decide) rfl (fun _ => ?_) (fun hn => absurd hn g8)
        refine x_aload_n (pc' := 38) dX11_looks_37 rfl rfl ?_
        refine x_getr (pc' := 41) (t := 1) dX11_looks_38 f_X11_12 (by decide) rfl rfl rfl rfl ?_
        refine x_getr (pc' := 44) (t := 2) dX11_looks_41 f_X11_158 (by decide) rfl rfl rfl rfl ?_
        refine x_iload_n (pc' := 45) dX11_looks_44 rfl rfl ?_
        refine x_iald (pc' := 46) dX11_looks_45 (by decide) rfl (xok_in g7) rfl ?_
        refine x_bipush (pc' := 48) (x := 12) dX11_looks_46 (by decide) rfl ?_
        refine xg_ite h (fun g9 h => ?_) (fun g9 h => ?_)
        · refine x_icmp_ne (tgt := 54) (pc' := 51) dX11_looks_48 (by decide) rfl (fun hn => absurd g9 hn) (fun _ => ?_)
          refine x_bipush (pc' := 53) (x := (-6)) dX11_looks_51 (by decide) rfl ?_
          obtain rfl := Option.some.inj h
          exact x_iret dX11_looks_53 rfl rfl (Nat.le_of_ble_eq_true rfl) rfl
        · refine x_icmp_ne (tgt := 54) (pc' := 51) dX11_looks_48 (by decide) rfl (fun _ => ?_) (fun hn => absurd hn g9)
          refine x_aload_n (pc' := 55) dX11_looks_54 rfl rfl ?_
          refine x_getr (pc' := 58) (t := 1) dX11_looks_55 f_X11_12 (by decide) rfl rfl rfl rfl ?_
          refine x_iload_n (pc' := 59) dX11_looks_58 rfl rfl ?_
          refine x_iload_n (pc' := 60) dX11_looks_59 rfl rfl ?_
          refine xg_bI h (fun w11 hi11 hl11 r11 e10 h => ?_)
          refine x_callV (pc' := 63) (S := []) (As := [.int v1, .int v2]) (b' := (0, 0, 0)) dX11_looks_60 l_X11_161 m_X0_hasCell rfl rfl (show 1 < 122 by decide) rfl (Nat.le_of_ble_eq_true rfl) (Nat.le_of_ble_eq_true rfl) (Nat.le_of_ble_eq_true rfl) (Nat.le_of_ble_eq_true rfl) (r_X0_hasCell _ _ _ _ _ _ e10) rfl ?_
          refine xg_ite h (fun g12 h => ?_) (fun g12 h => ?_)
          · refine x_if_ne (tgt := 69) (pc' := 66) dX11_looks_63 (by decide) rfl (fun hn => absurd g12 hn) (fun _ => ?_)
            refine x_bipush (pc' := 68) (x := (-8)) dX11_looks_66 (by decide) rfl ?_
            obtain rfl := Option.some.inj h
            exact x_iret dX11_looks_68 rfl rfl (Nat.le_of_ble_eq_true rfl) rfl
          · refine x_if_ne (tgt := 69) (pc' := 66) dX11_looks_63 (by decide) rfl (fun _ => ?_) (fun hn => absurd hn g12)
            refine x_aload_n (pc' := 70) dX11_looks_69 rfl rfl ?_
            refine x_getr (pc' := 73) (t := 1) dX11_looks_70 f_X11_12 (by decide) rfl rfl rfl rfl ?_
            refine x_iload_n (pc' := 74) dX11_looks_73 rfl rfl ?_
            refine x_iload_n (pc' := 75) dX11_looks_74 rfl rfl ?_
            refine x_aload_n (pc' := 76) dX11_looks_75 rfl rfl ?_
            refine x_getr (pc' := 79) (t := 85) dX11_looks_76 f_X11_83 (by decide) rfl rfl rfl rfl ?_
            refine xg_bV h (fun hi14 hl14 r14 e13 h => ?_)
            refine x_callV (pc' := 82) (S := []) (As := [.int v1, .int v2, .ref 85]) (b' := (3, 0, 0)) dX11_looks_79 l_X11_165 m_X0_fetch rfl rfl (show 1 < 122 by decide) rfl (Nat.le_of_ble_eq_true rfl) (Nat.le_of_ble_eq_true rfl) (Nat.le_of_ble_eq_true rfl) (Nat.le_of_ble_eq_true rfl) (r_X0_fetch _ _ _ _ _ _ _ e13) rfl ?_
            refine x_iconst (pc' := 83) (x := 0) dX11_looks_82 (by decide) rfl ?_
            obtain rfl := Option.some.inj h
            exact x_iret dX11_looks_83 rfl rfl (Nat.le_of_ble_eq_true rfl) rfl
end
