section
variable {z : xZ}
def F_X8_handedDown_72 (K16 : Int32 → Int32 → Int32 → Int32 → (Nat → Nat → Int32) → (Nat → Nat → Int64) → xRr → Option (Int32 × xSt)) (v1 : Int32) (v6 : Int32) (v7 : Int32) (s0 : Int32) (hi : Nat → Nat → Int32) (hl : Nat → Nat → Int64) (r : xRr) : Option (Int32 × xSt) := K16 v1 s0 v7 (v6 + (-1)) hi hl r
set_option maxRecDepth 20000 in
set_option maxHeartbeats 2000000 in
theorem r_X8_handedDown_72 (K16 : Int32 → Int32 → Int32 → Int32 → (Nat → Nat → Int32) → (Nat → Nat → Int64) → xRr → Option (Int32 × xSt)) (hK16 : ∀ (v1 : Int32) (v4 : Int32) (v5 : Int32) (v6 : Int32) (d2 : Option Value) (d3 : Option Value) (d7 : Option Value) (d8 : Option Value) (hi : Nat → Nat → Int32) (hl : Nat → Nat → Int64) (r : xRr) (o : Int32 × xSt), K16 v1 v4 v5 v6 hi hl r = some o → xR (RX8, cX8_handedDown, 9, false, 1) (1, 0, 0) z 0 0 16 [some (.ref 6), some (.int v1), d2, d3, some (.int v4), some (.int v5), some (.int v6), d7, d8] [] (xhp hi hl r) (xoI o)) (v1 : Int32) (v6 : Int32) (v7 : Int32) (s0 : Int32) (d2 : Option Value) (d3 : Option Value) (d4 : Option Value) (d5 : Option Value) (d8 : Option Value) (hi : Nat → Nat → Int32) (hl : Nat → Nat → Int64) (r : xRr) (o : Int32 × xSt) (h : F_X8_handedDown_72 K16 v1 v6 v7 s0 hi hl r = some o) : xR (RX8, cX8_handedDown, 9, false, 1) (1, 0, 0) z 0 0 72 [some (.ref 6), some (.int v1), d2, d3, d4, d5, some (.int v6), some (.int v7), d8] [.int s0] (xhp hi hl r) (xoI o) := by
  refine x_istore (pc' := 74) (L' := [some (.ref 6), some (.int v1), d2, (xcl d3), some (.int s0), d5, some (.int v6), some (.int v7), d8]) dX8_handedDown_72 (Nat.le_of_ble_eq_true rfl) rfl rfl ?_
  refine x_iload (pc' := 76) dX8_handedDown_74 rfl rfl ?_
  refine x_istore (pc' := 78) (L' := [some (.ref 6), some (.int v1), d2, (xcl d3), some (.int s0), some (.int v7), some (.int v6), some (.int v7), d8]) dX8_handedDown_76 (Nat.le_of_ble_eq_true rfl) rfl rfl ?_
  refine x_iinc (pc' := 81) (v := (v6 + (-1))) (L' := [some (.ref 6), some (.int v1), d2, (xcl d3), some (.int s0), some (.int v7), some (.int (v6 + (-1))), some (.int v7), d8]) dX8_handedDown_78 rfl rfl (Nat.le_of_ble_eq_true rfl) rfl rfl ?_
  refine x_goto (tgt := 16) dX8_handedDown_81 (by decide) ?_
  exact hK16 _ _ _ _ _ _ _ _ _ _ _ _ h
def F_X8_handedDown_16 : Nat → Int32 → Int32 → Int32 → Int32 → (Nat → Nat → Int32) → (Nat → Nat → Int64) → xRr → Option (Int32 × xSt)
  | 0, _, _, _, _, _, _, _ => none
  | n + 1, v1, v4, v5, v6, hi, hl, r => if v6 < 0 then if xok v1 8 = true then if xok (hi 13 (Int32.toNatClampNeg v1)) 6 = true then xbP (F_X3_handed v4 v5 (hi 2 (Int32.toNatClampNeg (hi 13 (Int32.toNatClampNeg v1))))) (fun w5 => some (w5, hi, hl, r)) else none else none else if xok ((v1 * (4 : Int32)) + v6) 32 = true then if xok (hi 10 (Int32.toNatClampNeg ((v1 * (4 : Int32)) + v6))) 8 = true then xbP (F_X3_handed v4 v5 (hi 12 (Int32.toNatClampNeg (hi 10 (Int32.toNatClampNeg ((v1 * (4 : Int32)) + v6)))))) (fun w9 => if w9 = 0 then if (7 : Int32) < (hi 12 (Int32.toNatClampNeg (hi 10 (Int32.toNatClampNeg ((v1 * (4 : Int32)) + v6))))) then F_X8_handedDown_72 (F_X8_handedDown_16 n) v1 v6 (hi 12 (Int32.toNatClampNeg (hi 10 (Int32.toNatClampNeg ((v1 * (4 : Int32)) + v6))))) v4 hi hl r else F_X8_handedDown_72 (F_X8_handedDown_16 n) v1 v6 (hi 12 (Int32.toNatClampNeg (hi 10 (Int32.toNatClampNeg ((v1 * (4 : Int32)) + v6))))) (hi 12 (Int32.toNatClampNeg (hi 10 (Int32.toNatClampNeg ((v1 * (4 : Int32)) + v6))))) hi hl r else some (w9, hi, hl, r)) else none else none
set_option maxRecDepth 20000 in
set_option maxHeartbeats 2000000 in
theorem r_X8_handedDown_16 : ∀ (n : Nat) (v1 : Int32) (v4 : Int32) (v5 : Int32) (v6 : Int32) (d2 : Option Value) (d3 : Option Value) (d7 : Option Value) (d8 : Option Value) (hi : Nat → Nat → Int32) (hl : Nat → Nat → Int64) (r : xRr) (o : Int32 × xSt), F_X8_handedDown_16 n v1 v4 v5 v6 hi hl r = some o → xR (RX8, cX8_handedDown, 9, false, 1) (1, 0, 0) z 0 0 16 [some (.ref 6), some (.int v1), d2, d3, some (.int v4), some (.int v5), some (.int v6), d7, d8] [] (xhp hi hl r) (xoI o) := by
  intro n
  induction n with
  | zero =>
    intro v1 v4 v5 v6 d2 d3 d7 d8 hi hl r o h
    have h : none = some o := h
    cases h
  | succ n ih =>
    intro v1 v4 v5 v6 d2 d3 d7 d8 hi hl r o h
    refine x_iload (pc' := 18) dX8_handedDown_16 rfl rfl ?_
    refine xg_ite h (fun g1 h => ?_) (fun g1 h => ?_)
    · refine x_if_lt (tgt := 84) (pc' := 21) dX8_handedDown_18 (by decide) rfl (fun _ => ?_) (fun hn => absurd g1 hn)
      refine x_iload (pc' := 86) dX8_handedDown_84 rfl rfl ?_
      refine x_iload (pc' := 88) dX8_handedDown_86 rfl rfl ?_
      refine x_aload_n (pc' := 89) dX8_handedDown_88 rfl rfl ?_
      refine x_getr (pc' := 92) (t := 1) dX8_handedDown_89 f_X8_33 (by decide) rfl rfl rfl rfl ?_
      refine x_getr (pc' := 95) (t := 2) dX8_handedDown_92 f_X8_55 (by decide) rfl rfl rfl rfl ?_
      refine x_aload_n (pc' := 96) dX8_handedDown_95 rfl rfl ?_
      refine x_getr (pc' := 99) (t := 13) dX8_handedDown_96 f_X8_30 (by decide) rfl rfl rfl rfl ?_
      refine x_iload_n (pc' := 100) dX8_handedDown_99 rfl rfl ?_
      refine xg_if h (fun g2 h => ?_)
      refine x_iald (pc' := 101) dX8_handedDown_100 (by decide) rfl (xok_in g2) rfl ?_
      refine xg_if h (fun g3 h => ?_)
      refine x_iald (pc' := 102) dX8_handedDown_101 (by decide) rfl (xok_in g3) rfl ?_
      refine xg_bP h (fun w5 e4 h => ?_)
      refine x_callS (pc' := 105) (S := []) (As := [.int v4, .int v5, .int (hi 2 (Int32.toNatClampNeg (hi 13 (Int32.toNatClampNeg v1))))]) (b' := (0, 0, 0)) dX8_handedDown_102 l_X8_61 m_X3_handed rfl rfl (Nat.le_of_ble_eq_true rfl) (Nat.le_of_ble_eq_true rfl) (Nat.le_of_ble_eq_true rfl) (Nat.le_of_ble_eq_true rfl) (r_X3_handed _ _ _ _ _ e4) rfl ?_
      obtain rfl := Option.some.inj h
      exact x_iret dX8_handedDown_105 rfl rfl (Nat.le_of_ble_eq_true rfl) rfl
    · refine x_if_lt (tgt := 84) (pc' := 21) dX8_handedDown_18 (by decide) rfl (fun hn => absurd hn g1) (fun _ => ?_)
      refine x_aload_n (pc' := 22) dX8_handedDown_21 rfl rfl ?_
      refine x_getr (pc' := 25) (t := 12) dX8_handedDown_22 f_X8_27 (by decide) rfl rfl rfl rfl ?_
      refine x_aload_n (pc' := 26) dX8_handedDown_25 rfl rfl ?_
      refine x_getr (pc' := 29) (t := 10) dX8_handedDown_26 f_X8_21 (by decide) rfl rfl rfl rfl ?_
      refine x_iload_n (pc' := 30) dX8_handedDown_29 rfl rfl ?_
      refine x_iconst (pc' := 31) (x := 4) dX8_handedDown_30 (by decide) rfl ?_
      refine x_imul (pc' := 32) dX8_handedDown_31 rfl ?_
      refine x_iload (pc' := 34) dX8_handedDown_32 rfl rfl ?_
      refine x_iadd (pc' := 35) dX8_handedDown_34 rfl ?_
      refine xg_if h (fun g6 h => ?_)
      refine x_iald (pc' := 36) dX8_handedDown_35 (by decide) rfl (xok_in g6) rfl ?_
      refine xg_if h (fun g7 h => ?_)
      refine x_iald (pc' := 37) dX8_handedDown_36 (by decide) rfl (xok_in g7) rfl ?_
      refine x_istore (pc' := 39) (L' := [some (.ref 6), some (.int v1), d2, d3, some (.int v4), some (.int v5), some (.int v6), some (.int (hi 12 (Int32.toNatClampNeg (hi 10 (Int32.toNatClampNeg ((v1 * (4 : Int32)) + v6)))))), d8]) dX8_handedDown_37 (Nat.le_of_ble_eq_true rfl) rfl rfl ?_
      refine x_iload (pc' := 41) dX8_handedDown_39 rfl rfl ?_
      refine x_iload (pc' := 43) dX8_handedDown_41 rfl rfl ?_
      refine x_iload (pc' := 45) dX8_handedDown_43 rfl rfl ?_
      refine xg_bP h (fun w9 e8 h => ?_)
      refine x_callS (pc' := 48) (S := []) (As := [.int v4, .int v5, .int (hi 12 (Int32.toNatClampNeg (hi 10 (Int32.toNatClampNeg ((v1 * (4 : Int32)) + v6)))))]) (b' := (0, 0, 0)) dX8_handedDown_45 l_X8_61 m_X3_handed rfl rfl (Nat.le_of_ble_eq_true rfl) (Nat.le_of_ble_eq_true rfl) (Nat.le_of_ble_eq_true rfl) (Nat.le_of_ble_eq_true rfl) (r_X3_handed _ _ _ _ _ e8) rfl ?_
      refine x_istore (pc' := 50) (L' := [some (.ref 6), some (.int v1), d2, d3, some (.int v4), some (.int v5), some (.int v6), some (.int (hi 12 (Int32.toNatClampNeg (hi 10 (Int32.toNatClampNeg ((v1 * (4 : Int32)) + v6)))))), some (.int w9)]) dX8_handedDown_48 (Nat.le_of_ble_eq_true rfl) rfl rfl ?_
      refine x_iload (pc' := 52) dX8_handedDown_50 rfl rfl ?_
      refine xg_ite h (fun g10 h => ?_) (fun g10 h => ?_)
      · refine x_if_eq (tgt := 58) (pc' := 55) dX8_handedDown_52 (by decide) rfl (fun _ => ?_) (fun hn => absurd g10 hn)
        refine x_iload (pc' := 60) dX8_handedDown_58 rfl rfl ?_
        refine x_bipush (pc' := 62) (x := 7) dX8_handedDown_60 (by decide) rfl ?_
        refine xg_ite h (fun g11 h => ?_) (fun g11 h => ?_)
        · refine x_icmp_gt (tgt := 70) (pc' := 65) dX8_handedDown_62 (by decide) rfl (fun _ => ?_) (fun hn => absurd g11 hn)
          refine x_iload (pc' := 72) dX8_handedDown_70 rfl rfl ?_
          exact r_X8_handedDown_72 (F_X8_handedDown_16 n) ih _ _ _ _ _ _ _ _ _ _ _ _ _ h
        · refine x_icmp_gt (tgt := 70) (pc' := 65) dX8_handedDown_62 (by decide) rfl (fun hn => absurd hn g11) (fun _ => ?_)
          refine x_iload (pc' := 67) dX8_handedDown_65 rfl rfl ?_
          refine x_goto (tgt := 72) dX8_handedDown_67 (by decide) ?_
          exact r_X8_handedDown_72 (F_X8_handedDown_16 n) ih _ _ _ _ _ _ _ _ _ _ _ _ _ h
      · refine x_if_eq (tgt := 58) (pc' := 55) dX8_handedDown_52 (by decide) rfl (fun hn => absurd hn g10) (fun _ => ?_)
        refine x_iload (pc' := 57) dX8_handedDown_55 rfl rfl ?_
        obtain rfl := Option.some.inj h
        exact x_iret dX8_handedDown_57 rfl rfl (Nat.le_of_ble_eq_true rfl) rfl
def F_X8_handedDown (v1 : Int32) (v2 : Int32) (v3 : Int32) (hi : Nat → Nat → Int32) (hl : Nat → Nat → Int64) (r : xRr) : Option (Int32 × xSt) := if xok v1 8 = true then F_X8_handedDown_16 1000000 v1 v2 v3 ((hi 9 (Int32.toNatClampNeg v1)) - (1 : Int32)) hi hl r else none
set_option maxRecDepth 20000 in
set_option maxHeartbeats 2000000 in
theorem r_X8_handedDown (v1 : Int32) (v2 : Int32) (v3 : Int32) (hi : Nat → Nat → Int32) (hl : Nat → Nat → Int64) (r : xRr) (o : Int32 × xSt) (h : F_X8_handedDown v1 v2 v3 hi hl r = some o) : xM yX8_handedDown cX8_handedDown 9 1 (1, 0, 0) z [.ref 6, .int v1, .int v2, .int v3] (xhp hi hl r) (xoI o) := by
  refine x_meth2 (C := RX8) (ini := false) (L := [some (.ref 6), some (.int v1), some (.int v2), some (.int v3), none, none, none, none, none]) rfl (by decide) (fun h9 => by cases h9) (by decide) (Nat.le_of_ble_eq_true rfl) rfl ?_
  refine x_iload_n (pc' := 1) dX8_handedDown_0 rfl rfl ?_
  refine x_istore (pc' := 3) (L' := [some (.ref 6), some (.int v1), some (.int v2), some (.int v3), some (.int v2), none, none, none, none]) dX8_handedDown_1 (Nat.le_of_ble_eq_true rfl) rfl rfl ?_
  refine x_iload_n (pc' := 4) dX8_handedDown_3 rfl rfl ?_
  refine x_istore (pc' := 6) (L' := [some (.ref 6), some (.int v1), some (.int v2), some (.int v3), some (.int v2), some (.int v3), none, none, none]) dX8_handedDown_4 (Nat.le_of_ble_eq_true rfl) rfl rfl ?_
  refine x_aload_n (pc' := 7) dX8_handedDown_6 rfl rfl ?_
  refine x_getr (pc' := 10) (t := 9) dX8_handedDown_7 f_X8_18 (by decide) rfl rfl rfl rfl ?_
  refine x_iload_n (pc' := 11) dX8_handedDown_10 rfl rfl ?_
  refine xg_if h (fun g1 h => ?_)
  refine x_iald (pc' := 12) dX8_handedDown_11 (by decide) rfl (xok_in g1) rfl ?_
  refine x_iconst (pc' := 13) (x := 1) dX8_handedDown_12 (by decide) rfl ?_
  refine x_isub (pc' := 14) dX8_handedDown_13 rfl ?_
  refine x_istore (pc' := 16) (L' := [some (.ref 6), some (.int v1), some (.int v2), some (.int v3), some (.int v2), some (.int v3), some (.int ((hi 9 (Int32.toNatClampNeg v1)) - (1 : Int32))), none, none]) dX8_handedDown_14 (Nat.le_of_ble_eq_true rfl) rfl rfl ?_
  exact r_X8_handedDown_16 1000000 _ _ _ _ _ _ _ _ _ _ _ _ h
def F_X8_writeRefusal (v1 : Int32) (v2 : Int32) (v3 : Int32) (v4 : Int32) (hi : Nat → Nat → Int32) (hl : Nat → Nat → Int64) (r : xRr) : Option (Int32 × xSt) := xbI (F_X8_placeInBank v1 v2 hi hl r) (fun w2 hi2 hl2 r2 => if w2 = ((-1000) : Int32) then some (((-4) : Int32), hi2, hl2, r2) else xbI (F_X8_handedDown v1 v3 v4 hi2 hl2 r2) (fun w5 hi5 hl5 r5 => if w5 = 0 then if xok v1 8 = true then xbI (F_X0_hasCell (hi5 13 (Int32.toNatClampNeg v1)) w2 hi5 hl5 r5) (fun w9 hi9 hl9 r9 => if w9 = 0 then some (((-8) : Int32), hi9, hl9, r9) else some ((0 : Int32), hi9, hl9, r9)) else none else some (w5, hi5, hl5, r5)))
set_option maxRecDepth 20000 in
set_option maxHeartbeats 2000000 in
theorem r_X8_writeRefusal (v1 : Int32) (v2 : Int32) (v3 : Int32) (v4 : Int32) (hi : Nat → Nat → Int32) (hl : Nat → Nat → Int64) (r : xRr) (o : Int32 × xSt) (h : F_X8_writeRefusal v1 v2 v3 v4 hi hl r = some o) : xM yX8_writeRefusal cX8_writeRefusal 7 1 (2, 0, 0) z [.ref 6, .int v1, .int v2, .int v3, .int v4] (xhp hi hl r) (xoI o) := by
  refine x_meth2 (C := RX8) (ini := false) (L := [some (.ref 6), some (.int v1), some (.int v2), some (.int v3), some (.int v4), none, none]) rfl (by decide) (fun h9 => by cases h9) (by decide) (Nat.le_of_ble_eq_true rfl) rfl ?_
  refine x_aload_n (pc' := 1) dX8_writeRefusal_0 rfl rfl ?_
  refine x_iload_n (pc' := 2) dX8_writeRefusal_1 rfl rfl ?_
  refine x_iload_n (pc' := 3) dX8_writeRefusal_2 rfl rfl ?_
  refine xg_bI h (fun w2 hi2 hl2 r2 e1 h => ?_)
  refine x_callV (pc' := 6) (S := []) (As := [.int v1, .int v2]) (b' := (0, 0, 0)) dX8_writeRefusal_3 l_X8_45 m_X8_placeInBank rfl rfl (show 6 < 122 by decide) rfl (Nat.le_of_ble_eq_true rfl) (Nat.le_of_ble_eq_true rfl) (Nat.le_of_ble_eq_true rfl) (Nat.le_of_ble_eq_true rfl) (r_X8_placeInBank _ _ _ _ _ _ e1) rfl ?_
  refine x_istore (pc' := 8) (L' := [some (.ref 6), some (.int v1), some (.int v2), some (.int v3), some (.int v4), some (.int w2), none]) dX8_writeRefusal_6 (Nat.le_of_ble_eq_true rfl) rfl rfl ?_
  refine x_iload (pc' := 10) dX8_writeRefusal_8 rfl rfl ?_
  refine x_sipush (pc' := 13) (x := (-1000)) dX8_writeRefusal_10 (by decide) rfl ?_
  refine xg_ite h (fun g3 h => ?_) (fun g3 h => ?_)
  · refine x_icmp_ne (tgt := 19) (pc' := 16) dX8_writeRefusal_13 (by decide) rfl (fun hn => absurd g3 hn) (fun _ => ?_)
    refine x_bipush (pc' := 18) (x := (-4)) dX8_writeRefusal_16 (by decide) rfl ?_
    obtain rfl := Option.some.inj h
    exact x_iret dX8_writeRefusal_18 rfl rfl (Nat.le_of_ble_eq_true rfl) rfl
  · refine x_icmp_ne (tgt := 19) (pc' := 16) dX8_writeRefusal_13 (by decide) rfl (fun _ => ?_) (fun hn => absurd hn g3)
    refine x_aload_n (pc' := 20) dX8_writeRefusal_19 rfl rfl ?_
    refine x_iload_n (pc' := 21) dX8_writeRefusal_20 rfl rfl ?_
    refine x_iload_n (pc' := 22) dX8_writeRefusal_21 rfl rfl ?_
    refine x_iload (pc' := 24) dX8_writeRefusal_22 rfl rfl ?_
    refine xg_bI h (fun w5 hi5 hl5 r5 e4 h => ?_)
    refine x_callV (pc' := 27) (S := []) (As := [.int v1, .int v3, .int v4]) (b' := (1, 0, 0)) dX8_writeRefusal_24 l_X8_69 m_X8_handedDown rfl rfl (show 6 < 122 by decide) rfl (Nat.le_of_ble_eq_true rfl) (Nat.le_of_ble_eq_true rfl) (Nat.le_of_ble_eq_true rfl) (Nat.le_of_ble_eq_true rfl) (r_X8_handedDown _ _ _ _ _ _ _ e4) rfl ?_
    refine x_istore (pc' := 29) (L' := [some (.ref 6), some (.int v1), some (.int v2), some (.int v3), some (.int v4), some (.int w2), some (.int w5)]) dX8_writeRefusal_27 (Nat.le_of_ble_eq_true rfl) rfl rfl ?_
    refine x_iload (pc' := 31) dX8_writeRefusal_29 rfl rfl ?_
    refine xg_ite h (fun g6 h => ?_) (fun g6 h => ?_)
    · refine x_if_eq (tgt := 37) (pc' := 34) dX8_writeRefusal_31 (by decide) rfl (fun _ => ?_) (fun hn => absurd g6 hn)
      refine x_aload_n (pc' := 38) dX8_writeRefusal_37 rfl rfl ?_
      refine x_getr (pc' := 41) (t := 1) dX8_writeRefusal_38 f_X8_33 (by decide) rfl rfl rfl rfl ?_
      refine x_aload_n (pc' := 42) dX8_writeRefusal_41 rfl rfl ?_
      refine x_getr (pc' := 45) (t := 13) dX8_writeRefusal_42 f_X8_30 (by decide) rfl rfl rfl rfl ?_
      refine x_iload_n (pc' := 46) dX8_writeRefusal_45 rfl rfl ?_
      refine xg_if h (fun g7 h => ?_)
      refine x_iald (pc' := 47) dX8_writeRefusal_46 (by decide) rfl (xok_in g7) rfl ?_
      refine x_iload (pc' := 49) dX8_writeRefusal_47 rfl rfl ?_
      refine xg_bI h (fun w9 hi9 hl9 r9 e8 h => ?_)
      refine x_callV (pc' := 52) (S := []) (As := [.int (hi5 13 (Int32.toNatClampNeg v1)), .int w2]) (b' := (0, 0, 0)) dX8_writeRefusal_49 l_X8_49 m_X0_hasCell rfl rfl (show 1 < 122 by decide) rfl (Nat.le_of_ble_eq_true rfl) (Nat.le_of_ble_eq_true rfl) (Nat.le_of_ble_eq_true rfl) (Nat.le_of_ble_eq_true rfl) (r_X0_hasCell _ _ _ _ _ _ e8) rfl ?_
      refine xg_ite h (fun g10 h => ?_) (fun g10 h => ?_)
      · refine x_if_eq (tgt := 59) (pc' := 55) dX8_writeRefusal_52 (by decide) rfl (fun _ => ?_) (fun hn => absurd g10 hn)
        refine x_bipush (pc' := 61) (x := (-8)) dX8_writeRefusal_59 (by decide) rfl ?_
        obtain rfl := Option.some.inj h
        exact x_iret dX8_writeRefusal_61 rfl rfl (Nat.le_of_ble_eq_true rfl) rfl
      · refine x_if_eq (tgt := 59) (pc' := 55) dX8_writeRefusal_52 (by decide) rfl (fun hn => absurd hn g10) (fun _ => ?_)
        refine x_iconst (pc' := 56) (x := 0) dX8_writeRefusal_55 (by decide) rfl ?_
        refine x_goto (tgt := 61) dX8_writeRefusal_56 (by decide) ?_
        obtain rfl := Option.some.inj h
        exact x_iret dX8_writeRefusal_61 rfl rfl (Nat.le_of_ble_eq_true rfl) rfl
    · refine x_if_eq (tgt := 37) (pc' := 34) dX8_writeRefusal_31 (by decide) rfl (fun hn => absurd hn g6) (fun _ => ?_)
      refine x_iload (pc' := 36) dX8_writeRefusal_34 rfl rfl ?_
      obtain rfl := Option.some.inj h
      exact x_iret dX8_writeRefusal_36 rfl rfl (Nat.le_of_ble_eq_true rfl) rfl
def F_X8_goDown_9 : Nat → Int32 → Nat → Int32 → (Nat → Nat → Int32) → (Nat → Nat → Int64) → xRr → Option (xSt)
  | 0, _, _, _, _, _, _ => none
  | n + 1, v1, v2, v3, hi, hl, r => if v3 < 0 then some (hi, hl, r) else if xok ((v1 * (4 : Int32)) + v3) 32 = true then if xok (hi 10 (Int32.toNatClampNeg ((v1 * (4 : Int32)) + v3))) 8 = true then if xisO v2 5 = true then xbV (F_X6_enter v2 (hi 12 (Int32.toNatClampNeg (hi 10 (Int32.toNatClampNeg ((v1 * (4 : Int32)) + v3))))) hi hl r) (fun hi5 hl5 r5 => (F_X8_goDown_9 n) v1 v2 (v3 + (-1)) hi5 hl5 r5) else none else none else none
set_option maxRecDepth 20000 in
set_option maxHeartbeats 2000000 in
theorem r_X8_goDown_9 : ∀ (n : Nat) (v1 : Int32) (v2 : Nat) (v3 : Int32) (hi : Nat → Nat → Int32) (hl : Nat → Nat → Int64) (r : xRr) (o : xSt), F_X8_goDown_9 n v1 v2 v3 hi hl r = some o → xR (RX8, cX8_goDown, 4, false, 0) (3, 0, 0) z 0 0 9 [some (.ref 6), some (.int v1), some (.ref v2), some (.int v3)] [] (xhp hi hl r) (xoV o) := by
  intro n
  induction n with
  | zero =>
    intro v1 v2 v3 hi hl r o h
    have h : none = some o := h
    cases h
  | succ n ih =>
    intro v1 v2 v3 hi hl r o h
    refine x_iload_n (pc' := 10) dX8_goDown_9 rfl rfl ?_
    refine xg_ite h (fun g1 h => ?_) (fun g1 h => ?_)
    · refine x_if_lt (tgt := 38) (pc' := 13) dX8_goDown_10 (by decide) rfl (fun _ => ?_) (fun hn => absurd g1 hn)
      obtain rfl := Option.some.inj h
      exact x_vret dX8_goDown_38 rfl rfl (Nat.le_of_ble_eq_true rfl) rfl
    · refine x_if_lt (tgt := 38) (pc' := 13) dX8_goDown_10 (by decide) rfl (fun hn => absurd hn g1) (fun _ => ?_)
      refine x_aload_n (pc' := 14) dX8_goDown_13 rfl rfl ?_
      refine x_aload_n (pc' := 15) dX8_goDown_14 rfl rfl ?_
      refine x_getr (pc' := 18) (t := 12) dX8_goDown_15 f_X8_27 (by decide) rfl rfl rfl rfl ?_
      refine x_aload_n (pc' := 19) dX8_goDown_18 rfl rfl ?_
      refine x_getr (pc' := 22) (t := 10) dX8_goDown_19 f_X8_21 (by decide) rfl rfl rfl rfl ?_
      refine x_iload_n (pc' := 23) dX8_goDown_22 rfl rfl ?_
      refine x_iconst (pc' := 24) (x := 4) dX8_goDown_23 (by decide) rfl ?_
      refine x_imul (pc' := 25) dX8_goDown_24 rfl ?_
      refine x_iload_n (pc' := 26) dX8_goDown_25 rfl rfl ?_
      refine x_iadd (pc' := 27) dX8_goDown_26 rfl ?_
      refine xg_if h (fun g2 h => ?_)
      refine x_iald (pc' := 28) dX8_goDown_27 (by decide) rfl (xok_in g2) rfl ?_
      refine xg_if h (fun g3 h => ?_)
      refine x_iald (pc' := 29) dX8_goDown_28 (by decide) rfl (xok_in g3) rfl ?_
      refine xg_if h (fun g6 h => ?_)
      refine xg_bV h (fun hi5 hl5 r5 e4 h => ?_)
      refine x_callV (pc' := 32) (S := []) (As := [.int (hi 12 (Int32.toNatClampNeg (hi 10 (Int32.toNatClampNeg ((v1 * (4 : Int32)) + v3)))))]) (b' := (2, 0, 0)) dX8_goDown_29 l_X8_72 m_X6_enter rfl rfl (xisO_lt g6) (xisO_sh g6) (Nat.le_of_ble_eq_true rfl) (Nat.le_of_ble_eq_true rfl) (Nat.le_of_ble_eq_true rfl) (Nat.le_of_ble_eq_true rfl) (r_X6_enter _ _ _ _ _ _ e4) rfl ?_
      refine x_iinc (pc' := 35) (v := (v3 + (-1))) (L' := [some (.ref 6), some (.int v1), some (.ref v2), some (.int (v3 + (-1)))]) dX8_goDown_32 rfl rfl (Nat.le_of_ble_eq_true rfl) rfl rfl ?_
      refine x_goto (tgt := 9) dX8_goDown_35 (by decide) ?_
      exact ih _ _ _ _ _ _ _ h
def F_X8_goDown (v1 : Int32) (v2 : Nat) (hi : Nat → Nat → Int32) (hl : Nat → Nat → Int64) (r : xRr) : Option (xSt) := if xok v1 8 = true then F_X8_goDown_9 1000000 v1 v2 ((hi 9 (Int32.toNatClampNeg v1)) - (1 : Int32)) hi hl r else none
set_option maxRecDepth 20000 in
set_option maxHeartbeats 2000000 in
theorem r_X8_goDown (v1 : Int32) (v2 : Nat) (hi : Nat → Nat → Int32) (hl : Nat → Nat → Int64) (r : xRr) (o : xSt) (h : F_X8_goDown v1 v2 hi hl r = some o) : xM yX8_goDown cX8_goDown 4 0 (3, 0, 0) z [.ref 6, .int v1, .ref v2] (xhp hi hl r) (xoV o) := by
  refine x_meth2 (C := RX8) (ini := false) (L := [some (.ref 6), some (.int v1), some (.ref v2), none]) rfl (by decide) (fun h9 => by cases h9) (by decide) (Nat.le_of_ble_eq_true rfl) rfl ?_
  refine x_aload_n (pc' := 1) dX8_goDown_0 rfl rfl ?_
  refine x_getr (pc' := 4) (t := 9) dX8_goDown_1 f_X8_18 (by decide) rfl rfl rfl rfl ?_
  refine x_iload_n (pc' := 5) dX8_goDown_4 rfl rfl ?_
  refine xg_if h (fun g1 h => ?_)
  refine x_iald (pc' := 6) dX8_goDown_5 (by decide) rfl (xok_in g1) rfl ?_
  refine x_iconst (pc' := 7) (x := 1) dX8_goDown_6 (by decide) rfl ?_
  refine x_isub (pc' := 8) dX8_goDown_7 rfl ?_
  refine x_istore_n (pc' := 9) (L' := [some (.ref 6), some (.int v1), some (.ref v2), some (.int ((hi 9 (Int32.toNatClampNeg v1)) - (1 : Int32)))]) dX8_goDown_8 (Nat.le_of_ble_eq_true rfl) rfl rfl ?_
  exact r_X8_goDown_9 1000000 _ _ _ _ _ _ _ h
def F_X5_put (v1 : Int32) (v2 : Int32) (v3 : Nat) (v4 : Int32) (hi : Nat → Nat → Int32) (hl : Nat → Nat → Int64) (r : xRr) : Option (Int32 × xSt) := if xisO v3 5 = true then xbI (F_X8_writeRefusal v1 v2 (hi v3 0) v4 hi hl r) (fun w3 hi3 hl3 r3 => if w3 = 0 then xbV (F_X8_goDown v1 v3 hi3 hl3 r3) (fun hi6 hl6 r6 => if xok v1 8 = true then xbI (F_X8_placeInBank v1 v2 hi6 hl6 r6) (fun w9 hi9 hl9 r9 => xbV (F_X0_store (hi6 13 (Int32.toNatClampNeg v1)) w9 v3 hi9 hl9 r9) (fun hi11 hl11 r11 => some (w3, hi11, hl11, r11))) else none) else some (w3, hi3, hl3, r3)) else none
set_option maxRecDepth 20000 in
set_option maxHeartbeats 2000000 in
theorem r_X5_put (v1 : Int32) (v2 : Int32) (v3 : Nat) (v4 : Int32) (hi : Nat → Nat → Int32) (hl : Nat → Nat → Int64) (r : xRr) (o : Int32 × xSt) (h : F_X5_put v1 v2 v3 v4 hi hl r = some o) : xM yX5_put cX5_put 6 1 (4, 0, 0) z [.ref 14, .int v1, .int v2, .ref v3, .int v4] (xhp hi hl r) (xoI o) := by
  refine x_meth2 (C := RX5) (ini := false) (L := [some (.ref 14), some (.int v1), some (.int v2), some (.ref v3), some (.int v4), none]) rfl (by decide) (fun h9 => by cases h9) (by decide) (Nat.le_of_ble_eq_true rfl) rfl ?_
  refine x_aload_n (pc' := 1) dX5_put_0 rfl rfl ?_
  refine x_getr (pc' := 4) (t := 6) dX5_put_1 f_X5_29 (by decide) rfl rfl rfl rfl ?_
  refine x_iload_n (pc' := 5) dX5_put_4 rfl rfl ?_
  refine x_iload_n (pc' := 6) dX5_put_5 rfl rfl ?_
  refine x_aload_n (pc' := 7) dX5_put_6 rfl rfl ?_
  refine xg_if h (fun g1 h => ?_)
  refine x_geti (pc' := 10) dX5_put_7 f_X5_56 (xisO_lt g1) (xisO_sh g1) rfl rfl ?_
  refine x_iload (pc' := 12) dX5_put_10 rfl rfl ?_
  refine xg_bI h (fun w3 hi3 hl3 r3 e2 h => ?_)
  refine x_callV (pc' := 15) (S := []) (As := [.int v1, .int v2, .int (hi v3 0), .int v4]) (b' := (2, 0, 0)) dX5_put_12 l_X5_60 m_X8_writeRefusal rfl rfl (show 6 < 122 by decide) rfl (Nat.le_of_ble_eq_true rfl) (Nat.le_of_ble_eq_true rfl) (Nat.le_of_ble_eq_true rfl) (Nat.le_of_ble_eq_true rfl) (r_X8_writeRefusal _ _ _ _ _ _ _ _ e2) rfl ?_
  refine x_istore (pc' := 17) (L' := [some (.ref 14), some (.int v1), some (.int v2), some (.ref v3), some (.int v4), some (.int w3)]) dX5_put_15 (Nat.le_of_ble_eq_true rfl) rfl rfl ?_
  refine x_iload (pc' := 19) dX5_put_17 rfl rfl ?_
  refine xg_ite h (fun g4 h => ?_) (fun g4 h => ?_)
  · refine x_if_ne (tgt := 57) (pc' := 22) dX5_put_19 (by decide) rfl (fun hn => absurd g4 hn) (fun _ => ?_)
    refine x_aload_n (pc' := 23) dX5_put_22 rfl rfl ?_
    refine x_getr (pc' := 26) (t := 6) dX5_put_23 f_X5_29 (by decide) rfl rfl rfl rfl ?_
    refine x_iload_n (pc' := 27) dX5_put_26 rfl rfl ?_
    refine x_aload_n (pc' := 28) dX5_put_27 rfl rfl ?_
    refine xg_bV h (fun hi6 hl6 r6 e5 h => ?_)
    refine x_callV (pc' := 31) (S := []) (As := [.int v1, .ref v3]) (b' := (3, 0, 0)) dX5_put_28 l_X5_64 m_X8_goDown rfl rfl (show 6 < 122 by decide) rfl (Nat.le_of_ble_eq_true rfl) (Nat.le_of_ble_eq_true rfl) (Nat.le_of_ble_eq_true rfl) (Nat.le_of_ble_eq_true rfl) (r_X8_goDown _ _ _ _ _ _ e5) rfl ?_
    refine x_aload_n (pc' := 32) dX5_put_31 rfl rfl ?_
    refine x_getr (pc' := 35) (t := 1) dX5_put_32 f_X5_25 (by decide) rfl rfl rfl rfl ?_
    refine x_aload_n (pc' := 36) dX5_put_35 rfl rfl ?_
    refine x_getr (pc' := 39) (t := 6) dX5_put_36 f_X5_29 (by decide) rfl rfl rfl rfl ?_
    refine x_getr (pc' := 42) (t := 13) dX5_put_39 f_X5_39 (by decide) rfl rfl rfl rfl ?_
    refine x_iload_n (pc' := 43) dX5_put_42 rfl rfl ?_
    refine xg_if h (fun g7 h => ?_)
    refine x_iald (pc' := 44) dX5_put_43 (by decide) rfl (xok_in g7) rfl ?_
    refine x_aload_n (pc' := 45) dX5_put_44 rfl rfl ?_
    refine x_getr (pc' := 48) (t := 6) dX5_put_45 f_X5_29 (by decide) rfl rfl rfl rfl ?_
    refine x_iload_n (pc' := 49) dX5_put_48 rfl rfl ?_
    refine x_iload_n (pc' := 50) dX5_put_49 rfl rfl ?_
    refine xg_bI h (fun w9 hi9 hl9 r9 e8 h => ?_)
    refine x_callV (pc' := 53) (S := [.int (hi6 13 (Int32.toNatClampNeg v1)), .ref 1]) (As := [.int v1, .int v2]) (b' := (0, 0, 0)) dX5_put_50 l_X5_43 m_X8_placeInBank rfl rfl (show 6 < 122 by decide) rfl (Nat.le_of_ble_eq_true rfl) (Nat.le_of_ble_eq_true rfl) (Nat.le_of_ble_eq_true rfl) (Nat.le_of_ble_eq_true rfl) (r_X8_placeInBank _ _ _ _ _ _ e8) rfl ?_
    refine x_aload_n (pc' := 54) dX5_put_53 rfl rfl ?_
    refine xg_bV h (fun hi11 hl11 r11 e10 h => ?_)
    refine x_callV (pc' := 57) (S := []) (As := [.int (hi6 13 (Int32.toNatClampNeg v1)), .int w9, .ref v3]) (b' := (3, 0, 0)) dX5_put_54 l_X5_67 m_X0_store rfl rfl (show 1 < 122 by decide) rfl (Nat.le_of_ble_eq_true rfl) (Nat.le_of_ble_eq_true rfl) (Nat.le_of_ble_eq_true rfl) (Nat.le_of_ble_eq_true rfl) (r_X0_store _ _ _ _ _ _ _ e10) rfl ?_
    refine x_iload (pc' := 59) dX5_put_57 rfl rfl ?_
    obtain rfl := Option.some.inj h
    exact x_iret dX5_put_59 rfl rfl (Nat.le_of_ble_eq_true rfl) rfl
  · refine x_if_ne (tgt := 57) (pc' := 22) dX5_put_19 (by decide) rfl (fun _ => ?_) (fun hn => absurd hn g4)
    refine x_iload (pc' := 59) dX5_put_57 rfl rfl ?_
    obtain rfl := Option.some.inj h
    exact x_iret dX5_put_59 rfl rfl (Nat.le_of_ble_eq_true rfl) rfl
def F_X5_swapRefusal (v1 : Int32) (v2 : Int32) (v3 : Int32) (v4 : Int32) (v5 : Int32) (v6 : Int32) (hi : Nat → Nat → Int32) (hl : Nat → Nat → Int64) (r : xRr) : Option (Int32 × xSt) := if xok v1 8 = true then xbI (F_X8_writeRefusal v4 v5 v3 (hi 12 (Int32.toNatClampNeg v1)) hi hl r) (fun w3 hi3 hl3 r3 => if w3 = 0 then if xok v4 8 = true then xbI (F_X8_writeRefusal v1 v2 v6 (hi3 12 (Int32.toNatClampNeg v4)) hi3 hl3 r3) (fun w7 hi7 hl7 r7 => some (w7, hi7, hl7, r7)) else none else some (w3, hi3, hl3, r3)) else none
set_option maxRecDepth 20000 in
set_option maxHeartbeats 2000000 in
theorem r_X5_swapRefusal (v1 : Int32) (v2 : Int32) (v3 : Int32) (v4 : Int32) (v5 : Int32) (v6 : Int32) (hi : Nat → Nat → Int32) (hl : Nat → Nat → Int64) (r : xRr) (o : Int32 × xSt) (h : F_X5_swapRefusal v1 v2 v3 v4 v5 v6 hi hl r = some o) : xM yX5_swapRefusal cX5_swapRefusal 8 1 (3, 0, 0) z [.ref 14, .int v1, .int v2, .int v3, .int v4, .int v5, .int v6] (xhp hi hl r) (xoI o) := by
  refine x_meth2 (C := RX5) (ini := false) (L := [some (.ref 14), some (.int v1), some (.int v2), some (.int v3), some (.int v4), some (.int v5), some (.int v6), none]) rfl (by decide) (fun h9 => by cases h9) (by decide) (Nat.le_of_ble_eq_true rfl) rfl ?_
  refine x_aload_n (pc' := 1) dX5_swapRefusal_0 rfl rfl ?_
  refine x_getr (pc' := 4) (t := 6) dX5_swapRefusal_1 f_X5_29 (by decide) rfl rfl rfl rfl ?_
  refine x_iload (pc' := 6) dX5_swapRefusal_4 rfl rfl ?_
  refine x_iload (pc' := 8) dX5_swapRefusal_6 rfl rfl ?_
  refine x_iload_n (pc' := 9) dX5_swapRefusal_8 rfl rfl ?_
  refine x_aload_n (pc' := 10) dX5_swapRefusal_9 rfl rfl ?_
  refine x_getr (pc' := 13) (t := 6) dX5_swapRefusal_10 f_X5_29 (by decide) rfl rfl rfl rfl ?_
  refine x_getr (pc' := 16) (t := 12) dX5_swapRefusal_13 f_X5_74 (by decide) rfl rfl rfl rfl ?_
  refine x_iload_n (pc' := 17) dX5_swapRefusal_16 rfl rfl ?_
  refine xg_if h (fun g1 h => ?_)
  refine x_iald (pc' := 18) dX5_swapRefusal_17 (by decide) rfl (xok_in g1) rfl ?_
  refine xg_bI h (fun w3 hi3 hl3 r3 e2 h => ?_)
  refine x_callV (pc' := 21) (S := []) (As := [.int v4, .int v5, .int v3, .int (hi 12 (Int32.toNatClampNeg v1))]) (b' := (2, 0, 0)) dX5_swapRefusal_18 l_X5_60 m_X8_writeRefusal rfl rfl (show 6 < 122 by decide) rfl (Nat.le_of_ble_eq_true rfl) (Nat.le_of_ble_eq_true rfl) (Nat.le_of_ble_eq_true rfl) (Nat.le_of_ble_eq_true rfl) (r_X8_writeRefusal _ _ _ _ _ _ _ _ e2) rfl ?_
  refine x_istore (pc' := 23) (L' := [some (.ref 14), some (.int v1), some (.int v2), some (.int v3), some (.int v4), some (.int v5), some (.int v6), some (.int w3)]) dX5_swapRefusal_21 (Nat.le_of_ble_eq_true rfl) rfl rfl ?_
  refine x_iload (pc' := 25) dX5_swapRefusal_23 rfl rfl ?_
  refine xg_ite h (fun g4 h => ?_) (fun g4 h => ?_)
  · refine x_if_eq (tgt := 33) (pc' := 28) dX5_swapRefusal_25 (by decide) rfl (fun _ => ?_) (fun hn => absurd g4 hn)
    refine x_aload_n (pc' := 34) dX5_swapRefusal_33 rfl rfl ?_
    refine x_getr (pc' := 37) (t := 6) dX5_swapRefusal_34 f_X5_29 (by decide) rfl rfl rfl rfl ?_
    refine x_iload_n (pc' := 38) dX5_swapRefusal_37 rfl rfl ?_
    refine x_iload_n (pc' := 39) dX5_swapRefusal_38 rfl rfl ?_
    refine x_iload (pc' := 41) dX5_swapRefusal_39 rfl rfl ?_
    refine x_aload_n (pc' := 42) dX5_swapRefusal_41 rfl rfl ?_
    refine x_getr (pc' := 45) (t := 6) dX5_swapRefusal_42 f_X5_29 (by decide) rfl rfl rfl rfl ?_
    refine x_getr (pc' := 48) (t := 12) dX5_swapRefusal_45 f_X5_74 (by decide) rfl rfl rfl rfl ?_
    refine x_iload (pc' := 50) dX5_swapRefusal_48 rfl rfl ?_
    refine xg_if h (fun g5 h => ?_)
    refine x_iald (pc' := 51) dX5_swapRefusal_50 (by decide) rfl (xok_in g5) rfl ?_
    refine xg_bI h (fun w7 hi7 hl7 r7 e6 h => ?_)
    refine x_callV (pc' := 54) (S := []) (As := [.int v1, .int v2, .int v6, .int (hi3 12 (Int32.toNatClampNeg v4))]) (b' := (2, 0, 0)) dX5_swapRefusal_51 l_X5_60 m_X8_writeRefusal rfl rfl (show 6 < 122 by decide) rfl (Nat.le_of_ble_eq_true rfl) (Nat.le_of_ble_eq_true rfl) (Nat.le_of_ble_eq_true rfl) (Nat.le_of_ble_eq_true rfl) (r_X8_writeRefusal _ _ _ _ _ _ _ _ e6) rfl ?_
    obtain rfl := Option.some.inj h
    exact x_iret dX5_swapRefusal_54 rfl rfl (Nat.le_of_ble_eq_true rfl) rfl
  · refine x_if_eq (tgt := 33) (pc' := 28) dX5_swapRefusal_25 (by decide) rfl (fun hn => absurd hn g4) (fun _ => ?_)
    refine x_iload (pc' := 30) dX5_swapRefusal_28 rfl rfl ?_
    refine x_goto (tgt := 54) dX5_swapRefusal_30 (by decide) ?_
    obtain rfl := Option.some.inj h
    exact x_iret dX5_swapRefusal_54 rfl rfl (Nat.le_of_ble_eq_true rfl) rfl
def F_X5_swap (v1 : Int32) (v2 : Int32) (v3 : Int32) (v4 : Int32) (hi : Nat → Nat → Int32) (hl : Nat → Nat → Int64) (r : xRr) : Option (Int32 × xSt) := xbI (F_X5_swapRefusal v1 v2 (hi 15 0) v3 v4 (hi 16 0) hi hl r) (fun w2 hi2 hl2 r2 => if w2 = 0 then if xok v1 8 = true then xbI (F_X5_put v3 v4 15 (hi2 12 (Int32.toNatClampNeg v1)) hi2 hl2 r2) (fun w6 hi6 hl6 r6 => if xok v3 8 = true then xbI (F_X5_put v1 v2 16 (hi6 12 (Int32.toNatClampNeg v3)) hi6 hl6 r6) (fun w9 hi9 hl9 r9 => some (w9, hi9, hl9, r9)) else none) else none else some (w2, hi2, hl2, r2))
set_option maxRecDepth 20000 in
set_option maxHeartbeats 2000000 in
theorem r_X5_swap (v1 : Int32) (v2 : Int32) (v3 : Int32) (v4 : Int32) (hi : Nat → Nat → Int32) (hl : Nat → Nat → Int64) (r : xRr) (o : Int32 × xSt) (h : F_X5_swap v1 v2 v3 v4 hi hl r = some o) : xM yX5_swap cX5_swap 6 1 (5, 0, 0) z [.ref 14, .int v1, .int v2, .int v3, .int v4] (xhp hi hl r) (xoI o) := by
  refine x_meth2 (C := RX5) (ini := false) (L := [some (.ref 14), some (.int v1), some (.int v2), some (.int v3), some (.int v4), none]) rfl (by decide) (fun h9 => by cases h9) (by decide) (Nat.le_of_ble_eq_true rfl) rfl ?_
  refine x_aload_n (pc' := 1) dX5_swap_0 rfl rfl ?_
  refine x_iload_n (pc' := 2) dX5_swap_1 rfl rfl ?_
  refine x_iload_n (pc' := 3) dX5_swap_2 rfl rfl ?_
  refine x_aload_n (pc' := 4) dX5_swap_3 rfl rfl ?_
  refine x_getr (pc' := 7) (t := 15) dX5_swap_4 f_X5_12 (by decide) rfl rfl rfl rfl ?_
  refine x_geti (pc' := 10) dX5_swap_7 f_X5_56 (by decide) rfl rfl rfl ?_
  refine x_iload_n (pc' := 11) dX5_swap_10 rfl rfl ?_
  refine x_iload (pc' := 13) dX5_swap_11 rfl rfl ?_
  refine x_aload_n (pc' := 14) dX5_swap_13 rfl rfl ?_
  refine x_getr (pc' := 17) (t := 16) dX5_swap_14 f_X5_18 (by decide) rfl rfl rfl rfl ?_
  refine x_geti (pc' := 20) dX5_swap_17 f_X5_56 (by decide) rfl rfl rfl ?_
  refine xg_bI h (fun w2 hi2 hl2 r2 e1 h => ?_)
  refine x_callV (pc' := 23) (S := []) (As := [.int v1, .int v2, .int (hi 15 0), .int v3, .int v4, .int (hi 16 0)]) (b' := (3, 0, 0)) dX5_swap_20 l_X5_88 m_X5_swapRefusal rfl rfl (show 14 < 122 by decide) rfl (Nat.le_of_ble_eq_true rfl) (Nat.le_of_ble_eq_true rfl) (Nat.le_of_ble_eq_true rfl) (Nat.le_of_ble_eq_true rfl) (r_X5_swapRefusal _ _ _ _ _ _ _ _ _ _ e1) rfl ?_
  refine x_istore (pc' := 25) (L' := [some (.ref 14), some (.int v1), some (.int v2), some (.int v3), some (.int v4), some (.int w2)]) dX5_swap_23 (Nat.le_of_ble_eq_true rfl) rfl rfl ?_
  refine x_iload (pc' := 27) dX5_swap_25 rfl rfl ?_
  refine xg_ite h (fun g3 h => ?_) (fun g3 h => ?_)
  · refine x_if_eq (tgt := 33) (pc' := 30) dX5_swap_27 (by decide) rfl (fun _ => ?_) (fun hn => absurd g3 hn)
    refine x_aload_n (pc' := 34) dX5_swap_33 rfl rfl ?_
    refine x_iload_n (pc' := 35) dX5_swap_34 rfl rfl ?_
    refine x_iload (pc' := 37) dX5_swap_35 rfl rfl ?_
    refine x_aload_n (pc' := 38) dX5_swap_37 rfl rfl ?_
    refine x_getr (pc' := 41) (t := 15) dX5_swap_38 f_X5_12 (by decide) rfl rfl rfl rfl ?_
    refine x_aload_n (pc' := 42) dX5_swap_41 rfl rfl ?_
    refine x_getr (pc' := 45) (t := 6) dX5_swap_42 f_X5_29 (by decide) rfl rfl rfl rfl ?_
    refine x_getr (pc' := 48) (t := 12) dX5_swap_45 f_X5_74 (by decide) rfl rfl rfl rfl ?_
    refine x_iload_n (pc' := 49) dX5_swap_48 rfl rfl ?_
    refine xg_if h (fun g4 h => ?_)
    refine x_iald (pc' := 50) dX5_swap_49 (by decide) rfl (xok_in g4) rfl ?_
    refine xg_bI h (fun w6 hi6 hl6 r6 e5 h => ?_)
    refine x_callV (pc' := 53) (S := []) (As := [.int v3, .int v4, .ref 15, .int (hi2 12 (Int32.toNatClampNeg v1))]) (b' := (4, 0, 0)) dX5_swap_50 l_X5_77 m_X5_put rfl rfl (show 14 < 122 by decide) rfl (Nat.le_of_ble_eq_true rfl) (Nat.le_of_ble_eq_true rfl) (Nat.le_of_ble_eq_true rfl) (Nat.le_of_ble_eq_true rfl) (r_X5_put _ _ _ _ _ _ _ _ e5) rfl ?_
    refine x_pop (pc' := 54) dX5_swap_53 rfl rfl ?_
    refine x_aload_n (pc' := 55) dX5_swap_54 rfl rfl ?_
    refine x_iload_n (pc' := 56) dX5_swap_55 rfl rfl ?_
    refine x_iload_n (pc' := 57) dX5_swap_56 rfl rfl ?_
    refine x_aload_n (pc' := 58) dX5_swap_57 rfl rfl ?_
    refine x_getr (pc' := 61) (t := 16) dX5_swap_58 f_X5_18 (by decide) rfl rfl rfl rfl ?_
    refine x_aload_n (pc' := 62) dX5_swap_61 rfl rfl ?_
    refine x_getr (pc' := 65) (t := 6) dX5_swap_62 f_X5_29 (by decide) rfl rfl rfl rfl ?_
    refine x_getr (pc' := 68) (t := 12) dX5_swap_65 f_X5_74 (by decide) rfl rfl rfl rfl ?_
    refine x_iload_n (pc' := 69) dX5_swap_68 rfl rfl ?_
    refine xg_if h (fun g7 h => ?_)
    refine x_iald (pc' := 70) dX5_swap_69 (by decide) rfl (xok_in g7) rfl ?_
    refine xg_bI h (fun w9 hi9 hl9 r9 e8 h => ?_)
    refine x_callV (pc' := 73) (S := []) (As := [.int v1, .int v2, .ref 16, .int (hi6 12 (Int32.toNatClampNeg v3))]) (b' := (4, 0, 0)) dX5_swap_70 l_X5_77 m_X5_put rfl rfl (show 14 < 122 by decide) rfl (Nat.le_of_ble_eq_true rfl) (Nat.le_of_ble_eq_true rfl) (Nat.le_of_ble_eq_true rfl) (Nat.le_of_ble_eq_true rfl) (r_X5_put _ _ _ _ _ _ _ _ e8) rfl ?_
    obtain rfl := Option.some.inj h
    exact x_iret dX5_swap_73 rfl rfl (Nat.le_of_ble_eq_true rfl) rfl
  · refine x_if_eq (tgt := 33) (pc' := 30) dX5_swap_27 (by decide) rfl (fun hn => absurd hn g3) (fun _ => ?_)
    refine x_iload (pc' := 32) dX5_swap_30 rfl rfl ?_
    obtain rfl := Option.some.inj h
    exact x_iret dX5_swap_32 rfl rfl (Nat.le_of_ble_eq_true rfl) rfl
def F_X5_noTerm_19 : Option (Int32) := some ((-7) : Int32)
set_option maxRecDepth 20000 in
set_option maxHeartbeats 2000000 in
theorem r_X5_noTerm_19 (d0 : Option Value) (H : xHp) (o : Int32) (h : F_X5_noTerm_19 = some o) : xR (RX5, cX5_noTerm, 1, false, 1) (0, 0, 0) z 0 0 19 [d0] [] H (some (.int o), H) := by
  refine x_bipush (pc' := 21) (x := (-7)) dX5_noTerm_19 (by decide) rfl ?_
  refine x_goto (tgt := 25) dX5_noTerm_21 (by decide) ?_
  obtain rfl := Option.some.inj h
  exact x_iret dX5_noTerm_25 rfl rfl (Nat.le_of_ble_eq_true rfl) rfl
def F_X5_noTerm (v0 : Int32) : Option (Int32) := if v0 = (10 : Int32) then some ((-9) : Int32) else if v0 = (9 : Int32) then F_X5_noTerm_19 else if v0 = 0 then F_X5_noTerm_19 else some (0 : Int32)
set_option maxRecDepth 20000 in
set_option maxHeartbeats 2000000 in
theorem r_X5_noTerm (v0 : Int32) (H : xHp) (o : Int32) (h : F_X5_noTerm v0 = some o) : xM yX5_noTerm cX5_noTerm 1 1 (0, 0, 0) z [.int v0] H (some (.int o), H) := by
  refine x_meth2 (C := RX5) (ini := false) (L := [some (.int v0)]) rfl (by decide) (fun h9 => by cases h9) (by decide) (Nat.le_of_ble_eq_true rfl) rfl ?_
  refine x_iload_n (pc' := 1) dX5_noTerm_0 rfl rfl ?_
  refine x_bipush (pc' := 3) (x := 10) dX5_noTerm_1 (by decide) rfl ?_
  refine xg_ite h (fun g1 h => ?_) (fun g1 h => ?_)
  · refine x_icmp_ne (tgt := 9) (pc' := 6) dX5_noTerm_3 (by decide) rfl (fun hn => absurd g1 hn) (fun _ => ?_)
    refine x_bipush (pc' := 8) (x := (-9)) dX5_noTerm_6 (by decide) rfl ?_
    obtain rfl := Option.some.inj h
    exact x_iret dX5_noTerm_8 rfl rfl (Nat.le_of_ble_eq_true rfl) rfl
  · refine x_icmp_ne (tgt := 9) (pc' := 6) dX5_noTerm_3 (by decide) rfl (fun _ => ?_) (fun hn => absurd hn g1)
    refine x_iload_n (pc' := 10) dX5_noTerm_9 rfl rfl ?_
    refine x_bipush (pc' := 12) (x := 9) dX5_noTerm_10 (by decide) rfl ?_
    refine xg_ite h (fun g2 h => ?_) (fun g2 h => ?_)
    · refine x_icmp_eq (tgt := 19) (pc' := 15) dX5_noTerm_12 (by decide) rfl (fun _ => ?_) (fun hn => absurd g2 hn)
      exact r_X5_noTerm_19 _ _ _ h
    · refine x_icmp_eq (tgt := 19) (pc' := 15) dX5_noTerm_12 (by decide) rfl (fun hn => absurd hn g2) (fun _ => ?_)
      refine x_iload_n (pc' := 16) dX5_noTerm_15 rfl rfl ?_
      refine xg_ite h (fun g3 h => ?_) (fun g3 h => ?_)
      · refine x_if_ne (tgt := 24) (pc' := 19) dX5_noTerm_16 (by decide) rfl (fun hn => absurd g3 hn) (fun _ => ?_)
        exact r_X5_noTerm_19 _ _ _ h
      · refine x_if_ne (tgt := 24) (pc' := 19) dX5_noTerm_16 (by decide) rfl (fun _ => ?_) (fun hn => absurd hn g3)
        refine x_iconst (pc' := 25) (x := 0) dX5_noTerm_24 (by decide) rfl ?_
        obtain rfl := Option.some.inj h
        exact x_iret dX5_noTerm_25 rfl rfl (Nat.le_of_ble_eq_true rfl) rfl
def F_X5_widerKind (v0 : Int32) (v1 : Int32) : Option (Int32) := some (if (4 : Int32) < (if v0 < v1 then v1 else v0) then (if v0 < v1 then v1 else v0) else (4 : Int32))
set_option maxRecDepth 20000 in
set_option maxHeartbeats 2000000 in
theorem r_X5_widerKind (v0 : Int32) (v1 : Int32) (H : xHp) (o : Int32) (h : F_X5_widerKind v0 v1 = some o) : xM yX5_widerKind cX5_widerKind 2 1 (1, 0, 0) z [.int v0, .int v1] H (some (.int o), H) := by
  refine x_meth2 (C := RX5) (ini := false) (L := [some (.int v0), some (.int v1)]) rfl (by decide) (fun h9 => by cases h9) (by decide) (Nat.le_of_ble_eq_true rfl) rfl ?_
  refine x_iconst (pc' := 1) (x := 4) dX5_widerKind_0 (by decide) rfl ?_
  refine x_iload_n (pc' := 2) dX5_widerKind_1 rfl rfl ?_
  refine x_iload_n (pc' := 3) dX5_widerKind_2 rfl rfl ?_
  refine x_mmax (pc' := 6) dX5_widerKind_3 ml_X5_128 ma_J9_max_7cf53 mc_math mb_J9_max_7cf53 (Nat.le_of_ble_eq_true rfl) (Nat.le_of_ble_eq_true rfl) (Nat.le_of_ble_eq_true rfl) (Nat.le_of_ble_eq_true rfl) rfl ?_
  refine x_mmax (pc' := 9) dX5_widerKind_6 ml_X5_128 ma_J9_max_7cf53 mc_math mb_J9_max_7cf53 (Nat.le_of_ble_eq_true rfl) (Nat.le_of_ble_eq_true rfl) (Nat.le_of_ble_eq_true rfl) (Nat.le_of_ble_eq_true rfl) rfl ?_
  obtain rfl := Option.some.inj h
  exact x_iret dX5_widerKind_9 rfl rfl (Nat.le_of_ble_eq_true rfl) rfl
def F_X5_combined (v0 : Int32) (v1 : Int64) (v3 : Int64) : Option (Int64) := if v0 = (1 : Int32) then some (v1 + v3) else if v0 = (2 : Int32) then some (v3 - v1) else some (if v3 < v1 then v1 else v3)
set_option maxRecDepth 20000 in
set_option maxHeartbeats 2000000 in
theorem r_X5_combined (v0 : Int32) (v1 : Int64) (v3 : Int64) (H : xHp) (o : Int64) (h : F_X5_combined v0 v1 v3 = some o) : xM yX5_combined cX5_combined 5 2 (1, 0, 0) z [.int v0, .long v1, .long v3] H (some (.long o), H) := by
  refine x_meth2 (C := RX5) (ini := false) (L := [some (.int v0), some (.long v1), none, some (.long v3), none]) rfl (by decide) (fun h9 => by cases h9) (by decide) (Nat.le_of_ble_eq_true rfl) rfl ?_
  refine x_iload_n (pc' := 1) dX5_combined_0 rfl rfl ?_
  refine x_iconst (pc' := 2) (x := 1) dX5_combined_1 (by decide) rfl ?_
  refine xg_ite h (fun g1 h => ?_) (fun g1 h => ?_)
  · refine x_icmp_ne (tgt := 9) (pc' := 5) dX5_combined_2 (by decide) rfl (fun hn => absurd g1 hn) (fun _ => ?_)
    refine x_lload_n (pc' := 6) dX5_combined_5 rfl rfl ?_
    refine x_lload_n (pc' := 7) dX5_combined_6 rfl rfl ?_
    refine x_ladd (pc' := 8) dX5_combined_7 rfl ?_
    obtain rfl := Option.some.inj h
    exact x_lret dX5_combined_8 rfl rfl (Nat.le_of_ble_eq_true rfl) rfl
  · refine x_icmp_ne (tgt := 9) (pc' := 5) dX5_combined_2 (by decide) rfl (fun _ => ?_) (fun hn => absurd hn g1)
    refine x_iload_n (pc' := 10) dX5_combined_9 rfl rfl ?_
    refine x_iconst (pc' := 11) (x := 2) dX5_combined_10 (by decide) rfl ?_
    refine xg_ite h (fun g2 h => ?_) (fun g2 h => ?_)
    · refine x_icmp_ne (tgt := 20) (pc' := 14) dX5_combined_11 (by decide) rfl (fun hn => absurd g2 hn) (fun _ => ?_)
      refine x_lload_n (pc' := 15) dX5_combined_14 rfl rfl ?_
      refine x_lload_n (pc' := 16) dX5_combined_15 rfl rfl ?_
      refine x_lsub (pc' := 17) dX5_combined_16 rfl ?_
      refine x_goto (tgt := 25) dX5_combined_17 (by decide) ?_
      obtain rfl := Option.some.inj h
      exact x_lret dX5_combined_25 rfl rfl (Nat.le_of_ble_eq_true rfl) rfl
    · refine x_icmp_ne (tgt := 20) (pc' := 14) dX5_combined_11 (by decide) rfl (fun _ => ?_) (fun hn => absurd hn g2)
      refine x_lload_n (pc' := 21) dX5_combined_20 rfl rfl ?_
      refine x_lload_n (pc' := 22) dX5_combined_21 rfl rfl ?_
      refine x_mmaxl (pc' := 25) dX5_combined_22 ml_X5_133 ma_J9_max_f86c9 mc_math mb_J9_max_f86c9 (Nat.le_of_ble_eq_true rfl) (Nat.le_of_ble_eq_true rfl) (Nat.le_of_ble_eq_true rfl) (Nat.le_of_ble_eq_true rfl) rfl ?_
      obtain rfl := Option.some.inj h
      exact x_lret dX5_combined_25 rfl rfl (Nat.le_of_ble_eq_true rfl) rfl
def F_X5_byOfResult (v1 : Int32) (v2 : Int32) (hi : Nat → Nat → Int32) (hl : Nat → Nat → Int64) (r : xRr) : Option (Int32 × xSt) := if xok v1 8 = true then if (hi 12 (Int32.toNatClampNeg v1)) = (8 : Int32) then some ((8 : Int32), hi, hl, r) else some (v2, hi, hl, r) else none
set_option maxRecDepth 20000 in
set_option maxHeartbeats 2000000 in
theorem r_X5_byOfResult (v1 : Int32) (v2 : Int32) (hi : Nat → Nat → Int32) (hl : Nat → Nat → Int64) (r : xRr) (o : Int32 × xSt) (h : F_X5_byOfResult v1 v2 hi hl r = some o) : xM yX5_byOfResult cX5_byOfResult 3 1 (0, 0, 0) z [.ref 14, .int v1, .int v2] (xhp hi hl r) (xoI o) := by
  refine x_meth2 (C := RX5) (ini := false) (L := [some (.ref 14), some (.int v1), some (.int v2)]) rfl (by decide) (fun h9 => by cases h9) (by decide) (Nat.le_of_ble_eq_true rfl) rfl ?_
  refine x_aload_n (pc' := 1) dX5_byOfResult_0 rfl rfl ?_
  refine x_getr (pc' := 4) (t := 6) dX5_byOfResult_1 f_X5_29 (by decide) rfl rfl rfl rfl ?_
  refine x_getr (pc' := 7) (t := 12) dX5_byOfResult_4 f_X5_74 (by decide) rfl rfl rfl rfl ?_
  refine x_iload_n (pc' := 8) dX5_byOfResult_7 rfl rfl ?_
  refine xg_if h (fun g1 h => ?_)
  refine x_iald (pc' := 9) dX5_byOfResult_8 (by decide) rfl (xok_in g1) rfl ?_
  refine x_bipush (pc' := 11) (x := 8) dX5_byOfResult_9 (by decide) rfl ?_
  refine xg_ite h (fun g2 h => ?_) (fun g2 h => ?_)
  · refine x_icmp_ne (tgt := 19) (pc' := 14) dX5_byOfResult_11 (by decide) rfl (fun hn => absurd g2 hn) (fun _ => ?_)
    refine x_bipush (pc' := 16) (x := 8) dX5_byOfResult_14 (by decide) rfl ?_
    refine x_goto (tgt := 20) dX5_byOfResult_16 (by decide) ?_
    obtain rfl := Option.some.inj h
    exact x_iret dX5_byOfResult_20 rfl rfl (Nat.le_of_ble_eq_true rfl) rfl
  · refine x_icmp_ne (tgt := 19) (pc' := 14) dX5_byOfResult_11 (by decide) rfl (fun _ => ?_) (fun hn => absurd hn g2)
    refine x_iload_n (pc' := 20) dX5_byOfResult_19 rfl rfl ?_
    obtain rfl := Option.some.inj h
    exact x_iret dX5_byOfResult_20 rfl rfl (Nat.le_of_ble_eq_true rfl) rfl
def F_X5_reckon_135 (v2 : Int32) (v3 : Int32) (v5 : Int32) (v6 : Int64) (hi : Nat → Nat → Int32) (hl : Nat → Nat → Int64) (r : xRr) : Option (Int32 × xSt) := xbV (F_X6_become 15 v5 v6 hi hl r) (fun hi2 hl2 r2 => xbI (F_X5_byOfResult v2 v5 hi2 hl2 r2) (fun w4 hi4 hl4 r4 => xbI (F_X5_put v2 v3 15 w4 hi4 hl4 r4) (fun w6 hi6 hl6 r6 => some (w6, hi6, hl6, r6))))
set_option maxRecDepth 20000 in
set_option maxHeartbeats 2000000 in
theorem r_X5_reckon_135 (v2 : Int32) (v3 : Int32) (v5 : Int32) (v6 : Int64) (d1 : Option Value) (d4 : Option Value) (d7 : Option Value) (hi : Nat → Nat → Int32) (hl : Nat → Nat → Int64) (r : xRr) (o : Int32 × xSt) (h : F_X5_reckon_135 v2 v3 v5 v6 hi hl r = some o) : xR (RX5, cX5_reckon, 8, false, 1) (5, 0, 0) z 0 0 135 [some (.ref 14), d1, some (.int v2), some (.int v3), d4, some (.int v5), some (.long v6), d7] [] (xhp hi hl r) (xoI o) := by
  refine x_aload_n (pc' := 136) dX5_reckon_135 rfl rfl ?_
  refine x_getr (pc' := 139) (t := 15) dX5_reckon_136 f_X5_12 (by decide) rfl rfl rfl rfl ?_
  refine x_iload (pc' := 141) dX5_reckon_139 rfl rfl ?_
  refine x_lload (pc' := 143) dX5_reckon_141 rfl rfl ?_
  refine xg_bV h (fun hi2 hl2 r2 e1 h => ?_)
  refine x_callV (pc' := 146) (S := []) (As := [.int v5, .long v6]) (b' := (2, 0, 0)) dX5_reckon_143 l_X5_121 m_X6_become rfl rfl (show 15 < 122 by decide) rfl (Nat.le_of_ble_eq_true rfl) (Nat.le_of_ble_eq_true rfl) (Nat.le_of_ble_eq_true rfl) (Nat.le_of_ble_eq_true rfl) (r_X6_become _ _ _ _ _ _ _ e1) rfl ?_
  refine x_aload_n (pc' := 147) dX5_reckon_146 rfl rfl ?_
  refine x_iload_n (pc' := 148) dX5_reckon_147 rfl rfl ?_
  refine x_iload_n (pc' := 149) dX5_reckon_148 rfl rfl ?_
  refine x_aload_n (pc' := 150) dX5_reckon_149 rfl rfl ?_
  refine x_getr (pc' := 153) (t := 15) dX5_reckon_150 f_X5_12 (by decide) rfl rfl rfl rfl ?_
  refine x_aload_n (pc' := 154) dX5_reckon_153 rfl rfl ?_
  refine x_iload_n (pc' := 155) dX5_reckon_154 rfl rfl ?_
  refine x_iload (pc' := 157) dX5_reckon_155 rfl rfl ?_
  refine xg_bI h (fun w4 hi4 hl4 r4 e3 h => ?_)
  refine x_callV (pc' := 160) (S := [.ref 15, .int v3, .int v2, .ref 14]) (As := [.int v2, .int v5]) (b' := (0, 0, 0)) dX5_reckon_157 l_X5_125 m_X5_byOfResult rfl rfl (show 14 < 122 by decide) rfl (Nat.le_of_ble_eq_true rfl) (Nat.le_of_ble_eq_true rfl) (Nat.le_of_ble_eq_true rfl) (Nat.le_of_ble_eq_true rfl) (r_X5_byOfResult _ _ _ _ _ _ e3) rfl ?_
  refine xg_bI h (fun w6 hi6 hl6 r6 e5 h => ?_)
  refine x_callV (pc' := 163) (S := []) (As := [.int v2, .int v3, .ref 15, .int w4]) (b' := (4, 0, 0)) dX5_reckon_160 l_X5_77 m_X5_put rfl rfl (show 14 < 122 by decide) rfl (Nat.le_of_ble_eq_true rfl) (Nat.le_of_ble_eq_true rfl) (Nat.le_of_ble_eq_true rfl) (Nat.le_of_ble_eq_true rfl) (r_X5_put _ _ _ _ _ _ _ _ e5) rfl ?_
  obtain rfl := Option.some.inj h
  exact x_iret dX5_reckon_163 rfl rfl (Nat.le_of_ble_eq_true rfl) rfl
def F_X5_reckon_29 (v1 : Int32) (v2 : Int32) (v3 : Int32) (v4 : Int32) (hi : Nat → Nat → Int32) (hl : Nat → Nat → Int64) (r : xRr) : Option (Int32 × xSt) := if v4 = 0 then xbP (F_X5_widerKind (hi 15 0) (hi 16 0)) (fun w3 => xbV (F_X6_enter 15 w3 hi hl r) (fun hi5 hl5 r5 => xbV (F_X6_enter 16 w3 hi5 hl5 r5) (fun hi7 hl7 r7 => xbP (F_X5_combined v1 (hl7 15 1) (hl7 16 1)) (fun w9 => xbP (F_X3_rounded w9 w3) (fun w11 => if w3 = (4 : Int32) then F_X5_reckon_135 v2 v3 w3 (Int32.toInt64 (Int64.toInt32 w11)) hi7 hl7 r7 else if (lg_cmp w11 (-1152921504606846976 : Int64)) < 0 then some (((-10) : Int32), hi7, hl7, r7) else if (lg_cmp w11 (1152921504606846976 : Int64)) ≤ 0 then F_X5_reckon_135 v2 v3 w3 w11 hi7 hl7 r7 else some (((-10) : Int32), hi7, hl7, r7)))))) else some (v4, hi, hl, r)
set_option maxRecDepth 20000 in
set_option maxHeartbeats 2000000 in
theorem r_X5_reckon_29 (v1 : Int32) (v2 : Int32) (v3 : Int32) (v4 : Int32) (d5 : Option Value) (d6 : Option Value) (d7 : Option Value) (hi : Nat → Nat → Int32) (hl : Nat → Nat → Int64) (r : xRr) (o : Int32 × xSt) (h : F_X5_reckon_29 v1 v2 v3 v4 hi hl r = some o) : xR (RX5, cX5_reckon, 8, false, 1) (5, 0, 0) z 0 0 29 [some (.ref 14), some (.int v1), some (.int v2), some (.int v3), some (.int v4), d5, d6, d7] [] (xhp hi hl r) (xoI o) := by
  refine x_iload (pc' := 31) dX5_reckon_29 rfl rfl ?_
  refine xg_ite h (fun g1 h => ?_) (fun g1 h => ?_)
  · refine x_if_eq (tgt := 37) (pc' := 34) dX5_reckon_31 (by decide) rfl (fun _ => ?_) (fun hn => absurd g1 hn)
    refine x_aload_n (pc' := 38) dX5_reckon_37 rfl rfl ?_
    refine x_getr (pc' := 41) (t := 15) dX5_reckon_38 f_X5_12 (by decide) rfl rfl rfl rfl ?_
    refine x_geti (pc' := 44) dX5_reckon_41 f_X5_56 (by decide) rfl rfl rfl ?_
    refine x_aload_n (pc' := 45) dX5_reckon_44 rfl rfl ?_
    refine x_getr (pc' := 48) (t := 16) dX5_reckon_45 f_X5_18 (by decide) rfl rfl rfl rfl ?_
    refine x_geti (pc' := 51) dX5_reckon_48 f_X5_56 (by decide) rfl rfl rfl ?_
    refine xg_bP h (fun w3 e2 h => ?_)
    refine x_callS (pc' := 54) (S := []) (As := [.int (hi 15 0), .int (hi 16 0)]) (b' := (1, 0, 0)) dX5_reckon_51 l_X5_96 m_X5_widerKind rfl rfl (Nat.le_of_ble_eq_true rfl) (Nat.le_of_ble_eq_true rfl) (Nat.le_of_ble_eq_true rfl) (Nat.le_of_ble_eq_true rfl) (r_X5_widerKind _ _ _ _ e2) rfl ?_
    refine x_istore (pc' := 56) (L' := [some (.ref 14), some (.int v1), some (.int v2), some (.int v3), some (.int v4), some (.int w3), d6, d7]) dX5_reckon_54 (Nat.le_of_ble_eq_true rfl) rfl rfl ?_
    refine x_aload_n (pc' := 57) dX5_reckon_56 rfl rfl ?_
    refine x_getr (pc' := 60) (t := 15) dX5_reckon_57 f_X5_12 (by decide) rfl rfl rfl rfl ?_
    refine x_iload (pc' := 62) dX5_reckon_60 rfl rfl ?_
    refine xg_bV h (fun hi5 hl5 r5 e4 h => ?_)
    refine x_callV (pc' := 65) (S := []) (As := [.int w3]) (b' := (2, 0, 0)) dX5_reckon_62 l_X5_99 m_X6_enter rfl rfl (show 15 < 122 by decide) rfl (Nat.le_of_ble_eq_true rfl) (Nat.le_of_ble_eq_true rfl) (Nat.le_of_ble_eq_true rfl) (Nat.le_of_ble_eq_true rfl) (r_X6_enter _ _ _ _ _ _ e4) rfl ?_
    refine x_aload_n (pc' := 66) dX5_reckon_65 rfl rfl ?_
    refine x_getr (pc' := 69) (t := 16) dX5_reckon_66 f_X5_18 (by decide) rfl rfl rfl rfl ?_
    refine x_iload (pc' := 71) dX5_reckon_69 rfl rfl ?_
    refine xg_bV h (fun hi7 hl7 r7 e6 h => ?_)
    refine x_callV (pc' := 74) (S := []) (As := [.int w3]) (b' := (2, 0, 0)) dX5_reckon_71 l_X5_99 m_X6_enter rfl rfl (show 16 < 122 by decide) rfl (Nat.le_of_ble_eq_true rfl) (Nat.le_of_ble_eq_true rfl) (Nat.le_of_ble_eq_true rfl) (Nat.le_of_ble_eq_true rfl) (r_X6_enter _ _ _ _ _ _ e6) rfl ?_
    refine x_iload_n (pc' := 75) dX5_reckon_74 rfl rfl ?_
    refine x_aload_n (pc' := 76) dX5_reckon_75 rfl rfl ?_
    refine x_getr (pc' := 79) (t := 15) dX5_reckon_76 f_X5_12 (by decide) rfl rfl rfl rfl ?_
    refine x_getl (pc' := 82) dX5_reckon_79 f_X5_103 (by decide) rfl rfl rfl ?_
    refine x_aload_n (pc' := 83) dX5_reckon_82 rfl rfl ?_
    refine x_getr (pc' := 86) (t := 16) dX5_reckon_83 f_X5_18 (by decide) rfl rfl rfl rfl ?_
    refine x_getl (pc' := 89) dX5_reckon_86 f_X5_103 (by decide) rfl rfl rfl ?_
    refine xg_bP h (fun w9 e8 h => ?_)
    refine x_callS (pc' := 92) (S := []) (As := [.int v1, .long (hl7 15 1), .long (hl7 16 1)]) (b' := (1, 0, 0)) dX5_reckon_89 l_X5_107 m_X5_combined rfl rfl (Nat.le_of_ble_eq_true rfl) (Nat.le_of_ble_eq_true rfl) (Nat.le_of_ble_eq_true rfl) (Nat.le_of_ble_eq_true rfl) (r_X5_combined _ _ _ _ _ e8) rfl ?_
    refine x_iload (pc' := 94) dX5_reckon_92 rfl rfl ?_
    refine xg_bP h (fun w11 e10 h => ?_)
    refine x_callS (pc' := 97) (S := []) (As := [.long w9, .int w3]) (b' := (1, 0, 0)) dX5_reckon_94 l_X5_111 m_X3_rounded rfl rfl (Nat.le_of_ble_eq_true rfl) (Nat.le_of_ble_eq_true rfl) (Nat.le_of_ble_eq_true rfl) (Nat.le_of_ble_eq_true rfl) (r_X3_rounded _ _ _ _ e10) rfl ?_
    refine x_lstore (pc' := 99) (L' := [some (.ref 14), some (.int v1), some (.int v2), some (.int v3), some (.int v4), some (.int w3), some (.long w11), none]) dX5_reckon_97 (Nat.le_of_ble_eq_true rfl) rfl rfl ?_
    refine x_iload (pc' := 101) dX5_reckon_99 rfl rfl ?_
    refine x_iconst (pc' := 102) (x := 4) dX5_reckon_101 (by decide) rfl ?_
    refine xg_ite h (fun g12 h => ?_) (fun g12 h => ?_)
    · refine x_icmp_ne (tgt := 114) (pc' := 105) dX5_reckon_102 (by decide) rfl (fun hn => absurd g12 hn) (fun _ => ?_)
      refine x_lload (pc' := 107) dX5_reckon_105 rfl rfl ?_
      refine x_l2i (pc' := 108) dX5_reckon_107 rfl ?_
      refine x_i2l (pc' := 109) dX5_reckon_108 rfl ?_
      refine x_lstore (pc' := 111) (L' := [some (.ref 14), some (.int v1), some (.int v2), some (.int v3), some (.int v4), some (.int w3), some (.long (Int32.toInt64 (Int64.toInt32 w11))), none]) dX5_reckon_109 (Nat.le_of_ble_eq_true rfl) rfl rfl ?_
      refine x_goto (tgt := 135) dX5_reckon_111 (by decide) ?_
      exact r_X5_reckon_135 _ _ _ _ _ _ _ _ _ _ _ h
    · refine x_icmp_ne (tgt := 114) (pc' := 105) dX5_reckon_102 (by decide) rfl (fun _ => ?_) (fun hn => absurd hn g12)
      refine x_lload (pc' := 116) dX5_reckon_114 rfl rfl ?_
      refine x_ldc2 (pc' := 119) dX5_reckon_116 k_X5_117 rfl ?_
      refine x_lcmp (pc' := 120) dX5_reckon_119 rfl ?_
      refine xg_ite h (fun g13 h => ?_) (fun g13 h => ?_)
      · refine x_if_lt (tgt := 132) (pc' := 123) dX5_reckon_120 (by decide) rfl (fun _ => ?_) (fun hn => absurd g13 hn)
        refine x_bipush (pc' := 134) (x := (-10)) dX5_reckon_132 (by decide) rfl ?_
        obtain rfl := Option.some.inj h
        exact x_iret dX5_reckon_134 rfl rfl (Nat.le_of_ble_eq_true rfl) rfl
      · refine x_if_lt (tgt := 132) (pc' := 123) dX5_reckon_120 (by decide) rfl (fun hn => absurd hn g13) (fun _ => ?_)
        refine x_lload (pc' := 125) dX5_reckon_123 rfl rfl ?_
        refine x_ldc2 (pc' := 128) dX5_reckon_125 k_X5_119 rfl ?_
        refine x_lcmp (pc' := 129) dX5_reckon_128 rfl ?_
        refine xg_ite h (fun g14 h => ?_) (fun g14 h => ?_)
        · refine x_if_le (tgt := 135) (pc' := 132) dX5_reckon_129 (by decide) rfl (fun _ => ?_) (fun hn => absurd g14 hn)
          exact r_X5_reckon_135 _ _ _ _ _ _ _ _ _ _ _ h
        · refine x_if_le (tgt := 135) (pc' := 132) dX5_reckon_129 (by decide) rfl (fun hn => absurd hn g14) (fun _ => ?_)
          refine x_bipush (pc' := 134) (x := (-10)) dX5_reckon_132 (by decide) rfl ?_
          obtain rfl := Option.some.inj h
          exact x_iret dX5_reckon_134 rfl rfl (Nat.le_of_ble_eq_true rfl) rfl
  · refine x_if_eq (tgt := 37) (pc' := 34) dX5_reckon_31 (by decide) rfl (fun hn => absurd hn g1) (fun _ => ?_)
    refine x_iload (pc' := 36) dX5_reckon_34 rfl rfl ?_
    obtain rfl := Option.some.inj h
    exact x_iret dX5_reckon_36 rfl rfl (Nat.le_of_ble_eq_true rfl) rfl
def F_X5_reckon (v1 : Int32) (v2 : Int32) (v3 : Int32) (hi : Nat → Nat → Int32) (hl : Nat → Nat → Int64) (r : xRr) : Option (Int32 × xSt) := xbP (F_X5_noTerm (hi 15 0)) (fun w2 => if w2 = 0 then xbP (F_X5_noTerm (hi 16 0)) (fun w5 => F_X5_reckon_29 v1 v2 v3 w5 hi hl r) else F_X5_reckon_29 v1 v2 v3 w2 hi hl r)
set_option maxRecDepth 20000 in
set_option maxHeartbeats 2000000 in
theorem r_X5_reckon (v1 : Int32) (v2 : Int32) (v3 : Int32) (hi : Nat → Nat → Int32) (hl : Nat → Nat → Int64) (r : xRr) (o : Int32 × xSt) (h : F_X5_reckon v1 v2 v3 hi hl r = some o) : xM yX5_reckon cX5_reckon 8 1 (5, 0, 0) z [.ref 14, .int v1, .int v2, .int v3] (xhp hi hl r) (xoI o) := by
  refine x_meth2 (C := RX5) (ini := false) (L := [some (.ref 14), some (.int v1), some (.int v2), some (.int v3), none, none, none, none]) rfl (by decide) (fun h9 => by cases h9) (by decide) (Nat.le_of_ble_eq_true rfl) rfl ?_
  refine x_aload_n (pc' := 1) dX5_reckon_0 rfl rfl ?_
  refine x_getr (pc' := 4) (t := 15) dX5_reckon_1 f_X5_12 (by decide) rfl rfl rfl rfl ?_
  refine x_geti (pc' := 7) dX5_reckon_4 f_X5_56 (by decide) rfl rfl rfl ?_
  refine xg_bP h (fun w2 e1 h => ?_)
  refine x_callS (pc' := 10) (S := []) (As := [.int (hi 15 0)]) (b' := (0, 0, 0)) dX5_reckon_7 l_X5_92 m_X5_noTerm rfl rfl (Nat.le_of_ble_eq_true rfl) (Nat.le_of_ble_eq_true rfl) (Nat.le_of_ble_eq_true rfl) (Nat.le_of_ble_eq_true rfl) (r_X5_noTerm _ _ _ e1) rfl ?_
  refine x_istore (pc' := 12) (L' := [some (.ref 14), some (.int v1), some (.int v2), some (.int v3), some (.int w2), none, none, none]) dX5_reckon_10 (Nat.le_of_ble_eq_true rfl) rfl rfl ?_
  refine x_iload (pc' := 14) dX5_reckon_12 rfl rfl ?_
  refine xg_ite h (fun g3 h => ?_) (fun g3 h => ?_)
  · refine x_if_ne (tgt := 29) (pc' := 17) dX5_reckon_14 (by decide) rfl (fun hn => absurd g3 hn) (fun _ => ?_)
    refine x_aload_n (pc' := 18) dX5_reckon_17 rfl rfl ?_
    refine x_getr (pc' := 21) (t := 16) dX5_reckon_18 f_X5_18 (by decide) rfl rfl rfl rfl ?_
    refine x_geti (pc' := 24) dX5_reckon_21 f_X5_56 (by decide) rfl rfl rfl ?_
    refine xg_bP h (fun w5 e4 h => ?_)
    refine x_callS (pc' := 27) (S := []) (As := [.int (hi 16 0)]) (b' := (0, 0, 0)) dX5_reckon_24 l_X5_92 m_X5_noTerm rfl rfl (Nat.le_of_ble_eq_true rfl) (Nat.le_of_ble_eq_true rfl) (Nat.le_of_ble_eq_true rfl) (Nat.le_of_ble_eq_true rfl) (r_X5_noTerm _ _ _ e4) rfl ?_
    refine x_istore (pc' := 29) (L' := [some (.ref 14), some (.int v1), some (.int v2), some (.int v3), some (.int w5), none, none, none]) dX5_reckon_27 (Nat.le_of_ble_eq_true rfl) rfl rfl ?_
    exact r_X5_reckon_29 _ _ _ _ _ _ _ _ _ _ _ h
  · refine x_if_ne (tgt := 29) (pc' := 17) dX5_reckon_14 (by decide) rfl (fun _ => ?_) (fun hn => absurd hn g3)
    exact r_X5_reckon_29 _ _ _ _ _ _ _ _ _ _ _ h
def F_X5_perform (v1 : Int32) (v2 : Int32) (v3 : Int32) (v4 : Int32) (v5 : Int32) (hi : Nat → Nat → Int32) (hl : Nat → Nat → Int64) (r : xRr) : Option (Int32 × xSt) := xbI (F_X5_take v2 v3 15 hi hl r) (fun w2 hi2 hl2 r2 => if w2 = 0 then if v1 = 0 then if xok v2 8 = true then xbI (F_X5_put v4 v5 15 (hi2 12 (Int32.toNatClampNeg v2)) hi2 hl2 r2) (fun w7 hi7 hl7 r7 => some (w7, hi7, hl7, r7)) else none else xbI (F_X5_take v4 v5 16 hi2 hl2 r2) (fun w9 hi9 hl9 r9 => if w9 = 0 then if v1 = (4 : Int32) then xbI (F_X5_swap v2 v3 v4 v5 hi9 hl9 r9) (fun w13 hi13 hl13 r13 => some (w13, hi13, hl13, r13)) else xbI (F_X5_reckon v1 v4 v5 hi9 hl9 r9) (fun w15 hi15 hl15 r15 => some (w15, hi15, hl15, r15)) else some (w9, hi9, hl9, r9)) else some (w2, hi2, hl2, r2))
set_option maxRecDepth 20000 in
set_option maxHeartbeats 2000000 in
theorem r_X5_perform (v1 : Int32) (v2 : Int32) (v3 : Int32) (v4 : Int32) (v5 : Int32) (hi : Nat → Nat → Int32) (hl : Nat → Nat → Int64) (r : xRr) (o : Int32 × xSt) (h : F_X5_perform v1 v2 v3 v4 v5 hi hl r = some o) : xM yX5_perform cX5_perform 7 1 (6, 0, 0) z [.ref 14, .int v1, .int v2, .int v3, .int v4, .int v5] (xhp hi hl r) (xoI o) := by
  refine x_meth2 (C := RX5) (ini := false) (L := [some (.ref 14), some (.int v1), some (.int v2), some (.int v3), some (.int v4), some (.int v5), none]) rfl (by decide) (fun h9 => by cases h9) (by decide) (Nat.le_of_ble_eq_true rfl) rfl ?_
  refine x_aload_n (pc' := 1) dX5_perform_0 rfl rfl ?_
  refine x_iload_n (pc' := 2) dX5_perform_1 rfl rfl ?_
  refine x_iload_n (pc' := 3) dX5_perform_2 rfl rfl ?_
  refine x_aload_n (pc' := 4) dX5_perform_3 rfl rfl ?_
  refine x_getr (pc' := 7) (t := 15) dX5_perform_4 f_X5_12 (by decide) rfl rfl rfl rfl ?_
  refine xg_bI h (fun w2 hi2 hl2 r2 e1 h => ?_)
  refine x_callV (pc' := 10) (S := []) (As := [.int v2, .int v3, .ref 15]) (b' := (4, 0, 0)) dX5_perform_7 l_X5_70 m_X5_take rfl rfl (show 14 < 122 by decide) rfl (Nat.le_of_ble_eq_true rfl) (Nat.le_of_ble_eq_true rfl) (Nat.le_of_ble_eq_true rfl) (Nat.le_of_ble_eq_true rfl) (r_X5_take _ _ _ _ _ _ _ e1) rfl ?_
  refine x_istore (pc' := 12) (L' := [some (.ref 14), some (.int v1), some (.int v2), some (.int v3), some (.int v4), some (.int v5), some (.int w2)]) dX5_perform_10 (Nat.le_of_ble_eq_true rfl) rfl rfl ?_
  refine x_iload (pc' := 14) dX5_perform_12 rfl rfl ?_
  refine xg_ite h (fun g3 h => ?_) (fun g3 h => ?_)
  · refine x_if_eq (tgt := 20) (pc' := 17) dX5_perform_14 (by decide) rfl (fun _ => ?_) (fun hn => absurd g3 hn)
    refine x_iload_n (pc' := 21) dX5_perform_20 rfl rfl ?_
    refine xg_ite h (fun g4 h => ?_) (fun g4 h => ?_)
    · refine x_if_ne (tgt := 46) (pc' := 24) dX5_perform_21 (by decide) rfl (fun hn => absurd g4 hn) (fun _ => ?_)
      refine x_aload_n (pc' := 25) dX5_perform_24 rfl rfl ?_
      refine x_iload (pc' := 27) dX5_perform_25 rfl rfl ?_
      refine x_iload (pc' := 29) dX5_perform_27 rfl rfl ?_
      refine x_aload_n (pc' := 30) dX5_perform_29 rfl rfl ?_
      refine x_getr (pc' := 33) (t := 15) dX5_perform_30 f_X5_12 (by decide) rfl rfl rfl rfl ?_
      refine x_aload_n (pc' := 34) dX5_perform_33 rfl rfl ?_
      refine x_getr (pc' := 37) (t := 6) dX5_perform_34 f_X5_29 (by decide) rfl rfl rfl rfl ?_
      refine x_getr (pc' := 40) (t := 12) dX5_perform_37 f_X5_74 (by decide) rfl rfl rfl rfl ?_
      refine x_iload_n (pc' := 41) dX5_perform_40 rfl rfl ?_
      refine xg_if h (fun g5 h => ?_)
      refine x_iald (pc' := 42) dX5_perform_41 (by decide) rfl (xok_in g5) rfl ?_
      refine xg_bI h (fun w7 hi7 hl7 r7 e6 h => ?_)
      refine x_callV (pc' := 45) (S := []) (As := [.int v4, .int v5, .ref 15, .int (hi2 12 (Int32.toNatClampNeg v2))]) (b' := (4, 0, 0)) dX5_perform_42 l_X5_77 m_X5_put rfl rfl (show 14 < 122 by decide) rfl (Nat.le_of_ble_eq_true rfl) (Nat.le_of_ble_eq_true rfl) (Nat.le_of_ble_eq_true rfl) (Nat.le_of_ble_eq_true rfl) (r_X5_put _ _ _ _ _ _ _ _ e6) rfl ?_
      obtain rfl := Option.some.inj h
      exact x_iret dX5_perform_45 rfl rfl (Nat.le_of_ble_eq_true rfl) rfl
    · refine x_if_ne (tgt := 46) (pc' := 24) dX5_perform_21 (by decide) rfl (fun _ => ?_) (fun hn => absurd hn g4)
      refine x_aload_n (pc' := 47) dX5_perform_46 rfl rfl ?_
      refine x_iload (pc' := 49) dX5_perform_47 rfl rfl ?_
      refine x_iload (pc' := 51) dX5_perform_49 rfl rfl ?_
      refine x_aload_n (pc' := 52) dX5_perform_51 rfl rfl ?_
      refine x_getr (pc' := 55) (t := 16) dX5_perform_52 f_X5_18 (by decide) rfl rfl rfl rfl ?_
      refine xg_bI h (fun w9 hi9 hl9 r9 e8 h => ?_)
      refine x_callV (pc' := 58) (S := []) (As := [.int v4, .int v5, .ref 16]) (b' := (4, 0, 0)) dX5_perform_55 l_X5_70 m_X5_take rfl rfl (show 14 < 122 by decide) rfl (Nat.le_of_ble_eq_true rfl) (Nat.le_of_ble_eq_true rfl) (Nat.le_of_ble_eq_true rfl) (Nat.le_of_ble_eq_true rfl) (r_X5_take _ _ _ _ _ _ _ e8) rfl ?_
      refine x_istore (pc' := 60) (L' := [some (.ref 14), some (.int v1), some (.int v2), some (.int v3), some (.int v4), some (.int v5), some (.int w9)]) dX5_perform_58 (Nat.le_of_ble_eq_true rfl) rfl rfl ?_
      refine x_iload (pc' := 62) dX5_perform_60 rfl rfl ?_
      refine xg_ite h (fun g10 h => ?_) (fun g10 h => ?_)
      · refine x_if_eq (tgt := 68) (pc' := 65) dX5_perform_62 (by decide) rfl (fun _ => ?_) (fun hn => absurd g10 hn)
        refine x_iload_n (pc' := 69) dX5_perform_68 rfl rfl ?_
        refine x_iconst (pc' := 70) (x := 4) dX5_perform_69 (by decide) rfl ?_
        refine xg_ite h (fun g11 h => ?_) (fun g11 h => ?_)
        · refine x_icmp_ne (tgt := 86) (pc' := 73) dX5_perform_70 (by decide) rfl (fun hn => absurd g11 hn) (fun _ => ?_)
          refine x_aload_n (pc' := 74) dX5_perform_73 rfl rfl ?_
          refine x_iload_n (pc' := 75) dX5_perform_74 rfl rfl ?_
          refine x_iload_n (pc' := 76) dX5_perform_75 rfl rfl ?_
          refine x_iload (pc' := 78) dX5_perform_76 rfl rfl ?_
          refine x_iload (pc' := 80) dX5_perform_78 rfl rfl ?_
          refine xg_bI h (fun w13 hi13 hl13 r13 e12 h => ?_)
          refine x_callV (pc' := 83) (S := []) (As := [.int v2, .int v3, .int v4, .int v5]) (b' := (5, 0, 0)) dX5_perform_80 l_X5_81 m_X5_swap rfl rfl (show 14 < 122 by decide) rfl (Nat.le_of_ble_eq_true rfl) (Nat.le_of_ble_eq_true rfl) (Nat.le_of_ble_eq_true rfl) (Nat.le_of_ble_eq_true rfl) (r_X5_swap _ _ _ _ _ _ _ _ e12) rfl ?_
          refine x_goto (tgt := 95) dX5_perform_83 (by decide) ?_
          obtain rfl := Option.some.inj h
          exact x_iret dX5_perform_95 rfl rfl (Nat.le_of_ble_eq_true rfl) rfl
        · refine x_icmp_ne (tgt := 86) (pc' := 73) dX5_perform_70 (by decide) rfl (fun _ => ?_) (fun hn => absurd hn g11)
          refine x_aload_n (pc' := 87) dX5_perform_86 rfl rfl ?_
          refine x_iload_n (pc' := 88) dX5_perform_87 rfl rfl ?_
          refine x_iload (pc' := 90) dX5_perform_88 rfl rfl ?_
          refine x_iload (pc' := 92) dX5_perform_90 rfl rfl ?_
          refine xg_bI h (fun w15 hi15 hl15 r15 e14 h => ?_)
          refine x_callV (pc' := 95) (S := []) (As := [.int v1, .int v4, .int v5]) (b' := (5, 0, 0)) dX5_perform_92 l_X5_84 m_X5_reckon rfl rfl (show 14 < 122 by decide) rfl (Nat.le_of_ble_eq_true rfl) (Nat.le_of_ble_eq_true rfl) (Nat.le_of_ble_eq_true rfl) (Nat.le_of_ble_eq_true rfl) (r_X5_reckon _ _ _ _ _ _ _ e14) rfl ?_
          obtain rfl := Option.some.inj h
          exact x_iret dX5_perform_95 rfl rfl (Nat.le_of_ble_eq_true rfl) rfl
      · refine x_if_eq (tgt := 68) (pc' := 65) dX5_perform_62 (by decide) rfl (fun hn => absurd hn g10) (fun _ => ?_)
        refine x_iload (pc' := 67) dX5_perform_65 rfl rfl ?_
        obtain rfl := Option.some.inj h
        exact x_iret dX5_perform_67 rfl rfl (Nat.le_of_ble_eq_true rfl) rfl
  · refine x_if_eq (tgt := 20) (pc' := 17) dX5_perform_14 (by decide) rfl (fun hn => absurd hn g3) (fun _ => ?_)
    refine x_iload (pc' := 19) dX5_perform_17 rfl rfl ?_
    obtain rfl := Option.some.inj h
    exact x_iret dX5_perform_19 rfl rfl (Nat.le_of_ble_eq_true rfl) rfl
def F_X5_copyAtOnce_120 (K69 : Int32 → Int32 → Int32 → Int32 → Int32 → (Nat → Nat → Int32) → (Nat → Nat → Int64) → xRr → Option (Int32 × xSt)) (v1 : Int32) (v2 : Int32) (v3 : Int32) (v4 : Int32) (v5 : Int32) (hi : Nat → Nat → Int32) (hl : Nat → Nat → Int64) (r : xRr) : Option (Int32 × xSt) := K69 v1 v2 v3 v4 (v5 + (1)) hi hl r
set_option maxRecDepth 20000 in
set_option maxHeartbeats 2000000 in
theorem r_X5_copyAtOnce_120 (K69 : Int32 → Int32 → Int32 → Int32 → Int32 → (Nat → Nat → Int32) → (Nat → Nat → Int64) → xRr → Option (Int32 × xSt)) (hK69 : ∀ (v1 : Int32) (v2 : Int32) (v3 : Int32) (v4 : Int32) (v5 : Int32) (hi : Nat → Nat → Int32) (hl : Nat → Nat → Int64) (r : xRr) (o : Int32 × xSt), K69 v1 v2 v3 v4 v5 hi hl r = some o → xR (RX5, cX5_copyAtOnce, 6, false, 1) (5, 0, 0) z 0 0 69 [some (.ref 14), some (.int v1), some (.int v2), some (.int v3), some (.int v4), some (.int v5)] [] (xhp hi hl r) (xoI o)) (v1 : Int32) (v2 : Int32) (v3 : Int32) (v4 : Int32) (v5 : Int32) (hi : Nat → Nat → Int32) (hl : Nat → Nat → Int64) (r : xRr) (o : Int32 × xSt) (h : F_X5_copyAtOnce_120 K69 v1 v2 v3 v4 v5 hi hl r = some o) : xR (RX5, cX5_copyAtOnce, 6, false, 1) (5, 0, 0) z 0 0 120 [some (.ref 14), some (.int v1), some (.int v2), some (.int v3), some (.int v4), some (.int v5)] [] (xhp hi hl r) (xoI o) := by
  refine x_iinc (pc' := 123) (v := (v5 + (1))) (L' := [some (.ref 14), some (.int v1), some (.int v2), some (.int v3), some (.int v4), some (.int (v5 + (1)))]) dX5_copyAtOnce_120 rfl rfl (Nat.le_of_ble_eq_true rfl) rfl rfl ?_
  refine x_goto (tgt := 69) dX5_copyAtOnce_123 (by decide) ?_
  exact hK69 _ _ _ _ _ _ _ _ _ h
def F_X5_copyAtOnce_69 : Nat → Int32 → Int32 → Int32 → Int32 → Int32 → (Nat → Nat → Int32) → (Nat → Nat → Int64) → xRr → Option (Int32 × xSt)
  | 0, _, _, _, _, _, _, _, _ => none
  | n + 1, v1, v2, v3, v4, v5, hi, hl, r => if v3 ≤ v5 then some (v4, hi, hl, r) else if ((v4 >>> (v5 &&& 31)) &&& (1 : Int32)) = 0 then if xok v5 12 = true then xbO (xhr r 17 (Int32.toNatClampNeg v5)) (fun t4 => if xok v1 8 = true then xbI (F_X5_put v2 v5 t4 (hi 12 (Int32.toNatClampNeg v1)) hi hl r) (fun w8 hi8 hl8 r8 => if w8 = 0 then F_X5_copyAtOnce_120 (F_X5_copyAtOnce_69 n) v1 v2 v3 v4 v5 hi8 hl8 r8 else F_X5_copyAtOnce_120 (F_X5_copyAtOnce_69 n) v1 v2 v3 (v4 ||| ((1 : Int32) <<< (v5 &&& 31))) v5 hi8 hl8 r8) else none) else none else F_X5_copyAtOnce_120 (F_X5_copyAtOnce_69 n) v1 v2 v3 v4 v5 hi hl r
set_option maxRecDepth 20000 in
set_option maxHeartbeats 2000000 in
theorem r_X5_copyAtOnce_69 : ∀ (n : Nat) (v1 : Int32) (v2 : Int32) (v3 : Int32) (v4 : Int32) (v5 : Int32) (hi : Nat → Nat → Int32) (hl : Nat → Nat → Int64) (r : xRr) (o : Int32 × xSt), F_X5_copyAtOnce_69 n v1 v2 v3 v4 v5 hi hl r = some o → xR (RX5, cX5_copyAtOnce, 6, false, 1) (5, 0, 0) z 0 0 69 [some (.ref 14), some (.int v1), some (.int v2), some (.int v3), some (.int v4), some (.int v5)] [] (xhp hi hl r) (xoI o) := by
  intro n
  induction n with
  | zero =>
    intro v1 v2 v3 v4 v5 hi hl r o h
    have h : none = some o := h
    cases h
  | succ n ih =>
    intro v1 v2 v3 v4 v5 hi hl r o h
    refine x_iload (pc' := 71) dX5_copyAtOnce_69 rfl rfl ?_
    refine x_iload_n (pc' := 72) dX5_copyAtOnce_71 rfl rfl ?_
    refine xg_ite h (fun g1 h => ?_) (fun g1 h => ?_)
    · refine x_icmp_ge (tgt := 126) (pc' := 75) dX5_copyAtOnce_72 (by decide) rfl (fun _ => ?_) (fun hn => absurd g1 hn)
      refine x_iload (pc' := 128) dX5_copyAtOnce_126 rfl rfl ?_
      obtain rfl := Option.some.inj h
      exact x_iret dX5_copyAtOnce_128 rfl rfl (Nat.le_of_ble_eq_true rfl) rfl
    · refine x_icmp_ge (tgt := 126) (pc' := 75) dX5_copyAtOnce_72 (by decide) rfl (fun hn => absurd hn g1) (fun _ => ?_)
      refine x_iload (pc' := 77) dX5_copyAtOnce_75 rfl rfl ?_
      refine x_iload (pc' := 79) dX5_copyAtOnce_77 rfl rfl ?_
      refine x_ishr (pc' := 80) dX5_copyAtOnce_79 rfl ?_
      refine x_iconst (pc' := 81) (x := 1) dX5_copyAtOnce_80 (by decide) rfl ?_
      refine x_iand (pc' := 82) dX5_copyAtOnce_81 rfl ?_
      refine xg_ite h (fun g2 h => ?_) (fun g2 h => ?_)
      · refine x_if_ne (tgt := 120) (pc' := 85) dX5_copyAtOnce_82 (by decide) rfl (fun hn => absurd g2 hn) (fun _ => ?_)
        refine x_aload_n (pc' := 86) dX5_copyAtOnce_85 rfl rfl ?_
        refine x_iload_n (pc' := 87) dX5_copyAtOnce_86 rfl rfl ?_
        refine x_iload (pc' := 89) dX5_copyAtOnce_87 rfl rfl ?_
        refine x_aload_n (pc' := 90) dX5_copyAtOnce_89 rfl rfl ?_
        refine x_getr (pc' := 93) (t := 17) dX5_copyAtOnce_90 f_X5_21 (by decide) rfl rfl rfl rfl ?_
        refine x_iload (pc' := 95) dX5_copyAtOnce_93 rfl rfl ?_
        refine xg_if h (fun g3 h => ?_)
        refine xg_bO h (fun t4 e5 h => ?_)
        refine x_aald4 (pc' := 96) (t := t4) dX5_copyAtOnce_95 (by decide) rfl (xok_in g3) e5 rfl ?_
        refine x_aload_n (pc' := 97) dX5_copyAtOnce_96 rfl rfl ?_
        refine x_getr (pc' := 100) (t := 6) dX5_copyAtOnce_97 f_X5_29 (by decide) rfl rfl rfl rfl ?_
        refine x_getr (pc' := 103) (t := 12) dX5_copyAtOnce_100 f_X5_74 (by decide) rfl rfl rfl rfl ?_
        refine x_iload_n (pc' := 104) dX5_copyAtOnce_103 rfl rfl ?_
        refine xg_if h (fun g6 h => ?_)
        refine x_iald (pc' := 105) dX5_copyAtOnce_104 (by decide) rfl (xok_in g6) rfl ?_
        refine xg_bI h (fun w8 hi8 hl8 r8 e7 h => ?_)
        refine x_callV (pc' := 108) (S := []) (As := [.int v2, .int v5, .ref t4, .int (hi 12 (Int32.toNatClampNeg v1))]) (b' := (4, 0, 0)) dX5_copyAtOnce_105 l_X5_77 m_X5_put rfl rfl (show 14 < 122 by decide) rfl (Nat.le_of_ble_eq_true rfl) (Nat.le_of_ble_eq_true rfl) (Nat.le_of_ble_eq_true rfl) (Nat.le_of_ble_eq_true rfl) (r_X5_put _ _ _ _ _ _ _ _ e7) rfl ?_
        refine xg_ite h (fun g9 h => ?_) (fun g9 h => ?_)
        · refine x_if_eq (tgt := 120) (pc' := 111) dX5_copyAtOnce_108 (by decide) rfl (fun _ => ?_) (fun hn => absurd g9 hn)
          exact r_X5_copyAtOnce_120 (F_X5_copyAtOnce_69 n) ih _ _ _ _ _ _ _ _ _ h
        · refine x_if_eq (tgt := 120) (pc' := 111) dX5_copyAtOnce_108 (by decide) rfl (fun hn => absurd hn g9) (fun _ => ?_)
          refine x_iload (pc' := 113) dX5_copyAtOnce_111 rfl rfl ?_
          refine x_iconst (pc' := 114) (x := 1) dX5_copyAtOnce_113 (by decide) rfl ?_
          refine x_iload (pc' := 116) dX5_copyAtOnce_114 rfl rfl ?_
          refine x_ishl (pc' := 117) dX5_copyAtOnce_116 rfl ?_
          refine x_ior (pc' := 118) dX5_copyAtOnce_117 rfl ?_
          refine x_istore (pc' := 120) (L' := [some (.ref 14), some (.int v1), some (.int v2), some (.int v3), some (.int (v4 ||| ((1 : Int32) <<< (v5 &&& 31)))), some (.int v5)]) dX5_copyAtOnce_118 (Nat.le_of_ble_eq_true rfl) rfl rfl ?_
          exact r_X5_copyAtOnce_120 (F_X5_copyAtOnce_69 n) ih _ _ _ _ _ _ _ _ _ h
      · refine x_if_ne (tgt := 120) (pc' := 85) dX5_copyAtOnce_82 (by decide) rfl (fun _ => ?_) (fun hn => absurd hn g2)
        exact r_X5_copyAtOnce_120 (F_X5_copyAtOnce_69 n) ih _ _ _ _ _ _ _ _ _ h
def F_X5_copyAtOnce_60 (K28 : Int32 → Int32 → Int32 → Int32 → Int32 → (Nat → Nat → Int32) → (Nat → Nat → Int64) → xRr → Option (Int32 × xSt)) (v1 : Int32) (v2 : Int32) (v3 : Int32) (v4 : Int32) (v5 : Int32) (hi : Nat → Nat → Int32) (hl : Nat → Nat → Int64) (r : xRr) : Option (Int32 × xSt) := K28 v1 v2 v3 v4 (v5 + (1)) hi hl r
set_option maxRecDepth 20000 in
set_option maxHeartbeats 2000000 in
theorem r_X5_copyAtOnce_60 (K28 : Int32 → Int32 → Int32 → Int32 → Int32 → (Nat → Nat → Int32) → (Nat → Nat → Int64) → xRr → Option (Int32 × xSt)) (hK28 : ∀ (v1 : Int32) (v2 : Int32) (v3 : Int32) (v4 : Int32) (v5 : Int32) (hi : Nat → Nat → Int32) (hl : Nat → Nat → Int64) (r : xRr) (o : Int32 × xSt), K28 v1 v2 v3 v4 v5 hi hl r = some o → xR (RX5, cX5_copyAtOnce, 6, false, 1) (5, 0, 0) z 0 0 28 [some (.ref 14), some (.int v1), some (.int v2), some (.int v3), some (.int v4), some (.int v5)] [] (xhp hi hl r) (xoI o)) (v1 : Int32) (v2 : Int32) (v3 : Int32) (v4 : Int32) (v5 : Int32) (hi : Nat → Nat → Int32) (hl : Nat → Nat → Int64) (r : xRr) (o : Int32 × xSt) (h : F_X5_copyAtOnce_60 K28 v1 v2 v3 v4 v5 hi hl r = some o) : xR (RX5, cX5_copyAtOnce, 6, false, 1) (5, 0, 0) z 0 0 60 [some (.ref 14), some (.int v1), some (.int v2), some (.int v3), some (.int v4), some (.int v5)] [] (xhp hi hl r) (xoI o) := by
  refine x_iinc (pc' := 63) (v := (v5 + (1))) (L' := [some (.ref 14), some (.int v1), some (.int v2), some (.int v3), some (.int v4), some (.int (v5 + (1)))]) dX5_copyAtOnce_60 rfl rfl (Nat.le_of_ble_eq_true rfl) rfl rfl ?_
  refine x_goto (tgt := 28) dX5_copyAtOnce_63 (by decide) ?_
  exact hK28 _ _ _ _ _ _ _ _ _ h
def F_X5_copyAtOnce_28 : Nat → Int32 → Int32 → Int32 → Int32 → Int32 → (Nat → Nat → Int32) → (Nat → Nat → Int64) → xRr → Option (Int32 × xSt)
  | 0, _, _, _, _, _, _, _, _ => none
  | n + 1, v1, v2, v3, v4, v5, hi, hl, r => if v3 ≤ v5 then F_X5_copyAtOnce_69 1000000 v1 v2 v3 v4 (0 : Int32) hi hl r else if xok v5 12 = true then xbO (xhr r 17 (Int32.toNatClampNeg v5)) (fun t3 => xbI (F_X5_take v1 v5 t3 hi hl r) (fun w6 hi6 hl6 r6 => if w6 = 0 then F_X5_copyAtOnce_60 (F_X5_copyAtOnce_28 n) v1 v2 v3 v4 v5 hi6 hl6 r6 else F_X5_copyAtOnce_60 (F_X5_copyAtOnce_28 n) v1 v2 v3 (v4 ||| ((1 : Int32) <<< (v5 &&& 31))) v5 hi6 hl6 r6)) else none
set_option maxRecDepth 20000 in
set_option maxHeartbeats 2000000 in
theorem r_X5_copyAtOnce_28 : ∀ (n : Nat) (v1 : Int32) (v2 : Int32) (v3 : Int32) (v4 : Int32) (v5 : Int32) (hi : Nat → Nat → Int32) (hl : Nat → Nat → Int64) (r : xRr) (o : Int32 × xSt), F_X5_copyAtOnce_28 n v1 v2 v3 v4 v5 hi hl r = some o → xR (RX5, cX5_copyAtOnce, 6, false, 1) (5, 0, 0) z 0 0 28 [some (.ref 14), some (.int v1), some (.int v2), some (.int v3), some (.int v4), some (.int v5)] [] (xhp hi hl r) (xoI o) := by
  intro n
  induction n with
  | zero =>
    intro v1 v2 v3 v4 v5 hi hl r o h
    have h : none = some o := h
    cases h
  | succ n ih =>
    intro v1 v2 v3 v4 v5 hi hl r o h
    refine x_iload (pc' := 30) dX5_copyAtOnce_28 rfl rfl ?_
    refine x_iload_n (pc' := 31) dX5_copyAtOnce_30 rfl rfl ?_
    refine xg_ite h (fun g1 h => ?_) (fun g1 h => ?_)
    · refine x_icmp_ge (tgt := 66) (pc' := 34) dX5_copyAtOnce_31 (by decide) rfl (fun _ => ?_) (fun hn => absurd g1 hn)
      refine x_iconst (pc' := 67) (x := 0) dX5_copyAtOnce_66 (by decide) rfl ?_
      refine x_istore (pc' := 69) (L' := [some (.ref 14), some (.int v1), some (.int v2), some (.int v3), some (.int v4), some (.int (0 : Int32))]) dX5_copyAtOnce_67 (Nat.le_of_ble_eq_true rfl) rfl rfl ?_
      exact r_X5_copyAtOnce_69 1000000 _ _ _ _ _ _ _ _ _ h
    · refine x_icmp_ge (tgt := 66) (pc' := 34) dX5_copyAtOnce_31 (by decide) rfl (fun hn => absurd hn g1) (fun _ => ?_)
      refine x_aload_n (pc' := 35) dX5_copyAtOnce_34 rfl rfl ?_
      refine x_iload_n (pc' := 36) dX5_copyAtOnce_35 rfl rfl ?_
      refine x_iload (pc' := 38) dX5_copyAtOnce_36 rfl rfl ?_
      refine x_aload_n (pc' := 39) dX5_copyAtOnce_38 rfl rfl ?_
      refine x_getr (pc' := 42) (t := 17) dX5_copyAtOnce_39 f_X5_21 (by decide) rfl rfl rfl rfl ?_
      refine x_iload (pc' := 44) dX5_copyAtOnce_42 rfl rfl ?_
      refine xg_if h (fun g2 h => ?_)
      refine xg_bO h (fun t3 e4 h => ?_)
      refine x_aald4 (pc' := 45) (t := t3) dX5_copyAtOnce_44 (by decide) rfl (xok_in g2) e4 rfl ?_
      refine xg_bI h (fun w6 hi6 hl6 r6 e5 h => ?_)
      refine x_callV (pc' := 48) (S := []) (As := [.int v1, .int v5, .ref t3]) (b' := (4, 0, 0)) dX5_copyAtOnce_45 l_X5_70 m_X5_take rfl rfl (show 14 < 122 by decide) rfl (Nat.le_of_ble_eq_true rfl) (Nat.le_of_ble_eq_true rfl) (Nat.le_of_ble_eq_true rfl) (Nat.le_of_ble_eq_true rfl) (r_X5_take _ _ _ _ _ _ _ e5) rfl ?_
      refine xg_ite h (fun g7 h => ?_) (fun g7 h => ?_)
      · refine x_if_eq (tgt := 60) (pc' := 51) dX5_copyAtOnce_48 (by decide) rfl (fun _ => ?_) (fun hn => absurd g7 hn)
        exact r_X5_copyAtOnce_60 (F_X5_copyAtOnce_28 n) ih _ _ _ _ _ _ _ _ _ h
      · refine x_if_eq (tgt := 60) (pc' := 51) dX5_copyAtOnce_48 (by decide) rfl (fun hn => absurd hn g7) (fun _ => ?_)
        refine x_iload (pc' := 53) dX5_copyAtOnce_51 rfl rfl ?_
        refine x_iconst (pc' := 54) (x := 1) dX5_copyAtOnce_53 (by decide) rfl ?_
        refine x_iload (pc' := 56) dX5_copyAtOnce_54 rfl rfl ?_
        refine x_ishl (pc' := 57) dX5_copyAtOnce_56 rfl ?_
        refine x_ior (pc' := 58) dX5_copyAtOnce_57 rfl ?_
        refine x_istore (pc' := 60) (L' := [some (.ref 14), some (.int v1), some (.int v2), some (.int v3), some (.int (v4 ||| ((1 : Int32) <<< (v5 &&& 31)))), some (.int v5)]) dX5_copyAtOnce_58 (Nat.le_of_ble_eq_true rfl) rfl rfl ?_
        exact r_X5_copyAtOnce_60 (F_X5_copyAtOnce_28 n) ih _ _ _ _ _ _ _ _ _ h
def F_X5_copyAtOnce (v1 : Int32) (v2 : Int32) (hi : Nat → Nat → Int32) (hl : Nat → Nat → Int64) (r : xRr) : Option (Int32 × xSt) := if xok v1 8 = true then if xok v2 8 = true then F_X5_copyAtOnce_28 1000000 v1 v2 (if (hi 11 (Int32.toNatClampNeg v2)) < (hi 11 (Int32.toNatClampNeg v1)) then (hi 11 (Int32.toNatClampNeg v2)) else (hi 11 (Int32.toNatClampNeg v1))) (0 : Int32) (0 : Int32) hi hl r else none else none
set_option maxRecDepth 20000 in
set_option maxHeartbeats 2000000 in
theorem r_X5_copyAtOnce (v1 : Int32) (v2 : Int32) (hi : Nat → Nat → Int32) (hl : Nat → Nat → Int64) (r : xRr) (o : Int32 × xSt) (h : F_X5_copyAtOnce v1 v2 hi hl r = some o) : xM yX5_copyAtOnce cX5_copyAtOnce 6 1 (5, 0, 0) z [.ref 14, .int v1, .int v2] (xhp hi hl r) (xoI o) := by
  refine x_meth2 (C := RX5) (ini := false) (L := [some (.ref 14), some (.int v1), some (.int v2), none, none, none]) rfl (by decide) (fun h9 => by cases h9) (by decide) (Nat.le_of_ble_eq_true rfl) rfl ?_
  refine x_aload_n (pc' := 1) dX5_copyAtOnce_0 rfl rfl ?_
  refine x_getr (pc' := 4) (t := 6) dX5_copyAtOnce_1 f_X5_29 (by decide) rfl rfl rfl rfl ?_
  refine x_getr (pc' := 7) (t := 11) dX5_copyAtOnce_4 f_X5_149 (by decide) rfl rfl rfl rfl ?_
  refine x_iload_n (pc' := 8) dX5_copyAtOnce_7 rfl rfl ?_
  refine xg_if h (fun g1 h => ?_)
  refine x_iald (pc' := 9) dX5_copyAtOnce_8 (by decide) rfl (xok_in g1) rfl ?_
  refine x_aload_n (pc' := 10) dX5_copyAtOnce_9 rfl rfl ?_
  refine x_getr (pc' := 13) (t := 6) dX5_copyAtOnce_10 f_X5_29 (by decide) rfl rfl rfl rfl ?_
  refine x_getr (pc' := 16) (t := 11) dX5_copyAtOnce_13 f_X5_149 (by decide) rfl rfl rfl rfl ?_
  refine x_iload_n (pc' := 17) dX5_copyAtOnce_16 rfl rfl ?_
  refine xg_if h (fun g2 h => ?_)
  refine x_iald (pc' := 18) dX5_copyAtOnce_17 (by decide) rfl (xok_in g2) rfl ?_
  refine x_mmin (pc' := 21) dX5_copyAtOnce_18 ml_X5_152 ma_J9_min_7cf53 mc_math mb_J9_min_7cf53 (Nat.le_of_ble_eq_true rfl) (Nat.le_of_ble_eq_true rfl) (Nat.le_of_ble_eq_true rfl) (Nat.le_of_ble_eq_true rfl) rfl ?_
  refine x_istore_n (pc' := 22) (L' := [some (.ref 14), some (.int v1), some (.int v2), some (.int (if (hi 11 (Int32.toNatClampNeg v2)) < (hi 11 (Int32.toNatClampNeg v1)) then (hi 11 (Int32.toNatClampNeg v2)) else (hi 11 (Int32.toNatClampNeg v1)))), none, none]) dX5_copyAtOnce_21 (Nat.le_of_ble_eq_true rfl) rfl rfl ?_
  refine x_iconst (pc' := 23) (x := 0) dX5_copyAtOnce_22 (by decide) rfl ?_
  refine x_istore (pc' := 25) (L' := [some (.ref 14), some (.int v1), some (.int v2), some (.int (if (hi 11 (Int32.toNatClampNeg v2)) < (hi 11 (Int32.toNatClampNeg v1)) then (hi 11 (Int32.toNatClampNeg v2)) else (hi 11 (Int32.toNatClampNeg v1)))), some (.int (0 : Int32)), none]) dX5_copyAtOnce_23 (Nat.le_of_ble_eq_true rfl) rfl rfl ?_
  refine x_iconst (pc' := 26) (x := 0) dX5_copyAtOnce_25 (by decide) rfl ?_
  refine x_istore (pc' := 28) (L' := [some (.ref 14), some (.int v1), some (.int v2), some (.int (if (hi 11 (Int32.toNatClampNeg v2)) < (hi 11 (Int32.toNatClampNeg v1)) then (hi 11 (Int32.toNatClampNeg v2)) else (hi 11 (Int32.toNatClampNeg v1)))), some (.int (0 : Int32)), some (.int (0 : Int32))]) dX5_copyAtOnce_26 (Nat.le_of_ble_eq_true rfl) rfl rfl ?_
  exact r_X5_copyAtOnce_28 1000000 _ _ _ _ _ _ _ _ _ h
def F_X5_copyInOrder_77 (K29 : Int32 → Int32 → Int32 → Int32 → Int32 → Int32 → (Nat → Nat → Int32) → (Nat → Nat → Int64) → xRr → Option (Int32 × xSt)) (v1 : Int32) (v2 : Int32) (v3 : Int32) (v4 : Int32) (v5 : Int32) (v6 : Int32) (hi : Nat → Nat → Int32) (hl : Nat → Nat → Int64) (r : xRr) : Option (Int32 × xSt) := K29 v1 v2 v3 v4 v5 (v6 + (1)) hi hl r
set_option maxRecDepth 20000 in
set_option maxHeartbeats 2000000 in
theorem r_X5_copyInOrder_77 (K29 : Int32 → Int32 → Int32 → Int32 → Int32 → Int32 → (Nat → Nat → Int32) → (Nat → Nat → Int64) → xRr → Option (Int32 × xSt)) (hK29 : ∀ (v1 : Int32) (v2 : Int32) (v3 : Int32) (v4 : Int32) (v5 : Int32) (v6 : Int32) (d7 : Option Value) (hi : Nat → Nat → Int32) (hl : Nat → Nat → Int64) (r : xRr) (o : Int32 × xSt), K29 v1 v2 v3 v4 v5 v6 hi hl r = some o → xR (RX5, cX5_copyInOrder, 8, false, 1) (7, 0, 0) z 0 0 29 [some (.ref 14), some (.int v1), some (.int v2), some (.int v3), some (.int v4), some (.int v5), some (.int v6), d7] [] (xhp hi hl r) (xoI o)) (v1 : Int32) (v2 : Int32) (v3 : Int32) (v4 : Int32) (v5 : Int32) (v6 : Int32) (d7 : Option Value) (hi : Nat → Nat → Int32) (hl : Nat → Nat → Int64) (r : xRr) (o : Int32 × xSt) (h : F_X5_copyInOrder_77 K29 v1 v2 v3 v4 v5 v6 hi hl r = some o) : xR (RX5, cX5_copyInOrder, 8, false, 1) (7, 0, 0) z 0 0 77 [some (.ref 14), some (.int v1), some (.int v2), some (.int v3), some (.int v4), some (.int v5), some (.int v6), d7] [] (xhp hi hl r) (xoI o) := by
  refine x_iinc (pc' := 80) (v := (v6 + (1))) (L' := [some (.ref 14), some (.int v1), some (.int v2), some (.int v3), some (.int v4), some (.int v5), some (.int (v6 + (1))), d7]) dX5_copyInOrder_77 rfl rfl (Nat.le_of_ble_eq_true rfl) rfl rfl ?_
  refine x_goto (tgt := 29) dX5_copyInOrder_80 (by decide) ?_
  exact hK29 _ _ _ _ _ _ _ _ _ _ _ h
def F_X5_copyInOrder_52 (K29 : Int32 → Int32 → Int32 → Int32 → Int32 → Int32 → (Nat → Nat → Int32) → (Nat → Nat → Int64) → xRr → Option (Int32 × xSt)) (v1 : Int32) (v2 : Int32) (v3 : Int32) (v4 : Int32) (v5 : Int32) (v6 : Int32) (s0 : Int32) (hi : Nat → Nat → Int32) (hl : Nat → Nat → Int64) (r : xRr) : Option (Int32 × xSt) := xbI (F_X5_perform (0 : Int32) v1 s0 v2 s0 hi hl r) (fun w2 hi2 hl2 r2 => if w2 = 0 then F_X5_copyInOrder_77 K29 v1 v2 v3 v4 v5 v6 hi2 hl2 r2 else F_X5_copyInOrder_77 K29 v1 v2 v3 v4 (v5 ||| ((1 : Int32) <<< (s0 &&& 31))) v6 hi2 hl2 r2)
set_option maxRecDepth 20000 in
set_option maxHeartbeats 2000000 in
theorem r_X5_copyInOrder_52 (K29 : Int32 → Int32 → Int32 → Int32 → Int32 → Int32 → (Nat → Nat → Int32) → (Nat → Nat → Int64) → xRr → Option (Int32 × xSt)) (hK29 : ∀ (v1 : Int32) (v2 : Int32) (v3 : Int32) (v4 : Int32) (v5 : Int32) (v6 : Int32) (d7 : Option Value) (hi : Nat → Nat → Int32) (hl : Nat → Nat → Int64) (r : xRr) (o : Int32 × xSt), K29 v1 v2 v3 v4 v5 v6 hi hl r = some o → xR (RX5, cX5_copyInOrder, 8, false, 1) (7, 0, 0) z 0 0 29 [some (.ref 14), some (.int v1), some (.int v2), some (.int v3), some (.int v4), some (.int v5), some (.int v6), d7] [] (xhp hi hl r) (xoI o)) (v1 : Int32) (v2 : Int32) (v3 : Int32) (v4 : Int32) (v5 : Int32) (v6 : Int32) (s0 : Int32) (d7 : Option Value) (hi : Nat → Nat → Int32) (hl : Nat → Nat → Int64) (r : xRr) (o : Int32 × xSt) (h : F_X5_copyInOrder_52 K29 v1 v2 v3 v4 v5 v6 s0 hi hl r = some o) : xR (RX5, cX5_copyInOrder, 8, false, 1) (7, 0, 0) z 0 0 52 [some (.ref 14), some (.int v1), some (.int v2), some (.int v3), some (.int v4), some (.int v5), some (.int v6), d7] [.int s0] (xhp hi hl r) (xoI o) := by
  refine x_istore (pc' := 54) (L' := [some (.ref 14), some (.int v1), some (.int v2), some (.int v3), some (.int v4), some (.int v5), some (.int v6), some (.int s0)]) dX5_copyInOrder_52 (Nat.le_of_ble_eq_true rfl) rfl rfl ?_
  refine x_aload_n (pc' := 55) dX5_copyInOrder_54 rfl rfl ?_
  refine x_iconst (pc' := 56) (x := 0) dX5_copyInOrder_55 (by decide) rfl ?_
  refine x_iload_n (pc' := 57) dX5_copyInOrder_56 rfl rfl ?_
  refine x_iload (pc' := 59) dX5_copyInOrder_57 rfl rfl ?_
  refine x_iload_n (pc' := 60) dX5_copyInOrder_59 rfl rfl ?_
  refine x_iload (pc' := 62) dX5_copyInOrder_60 rfl rfl ?_
  refine xg_bI h (fun w2 hi2 hl2 r2 e1 h => ?_)
  refine x_callV (pc' := 65) (S := []) (As := [.int (0 : Int32), .int v1, .int s0, .int v2, .int s0]) (b' := (6, 0, 0)) dX5_copyInOrder_62 l_X5_155 m_X5_perform rfl rfl (show 14 < 122 by decide) rfl (Nat.le_of_ble_eq_true rfl) (Nat.le_of_ble_eq_true rfl) (Nat.le_of_ble_eq_true rfl) (Nat.le_of_ble_eq_true rfl) (r_X5_perform _ _ _ _ _ _ _ _ _ e1) rfl ?_
  refine xg_ite h (fun g3 h => ?_) (fun g3 h => ?_)
  · refine x_if_eq (tgt := 77) (pc' := 68) dX5_copyInOrder_65 (by decide) rfl (fun _ => ?_) (fun hn => absurd g3 hn)
    exact r_X5_copyInOrder_77 K29 hK29 _ _ _ _ _ _ _ _ _ _ _ h
  · refine x_if_eq (tgt := 77) (pc' := 68) dX5_copyInOrder_65 (by decide) rfl (fun hn => absurd hn g3) (fun _ => ?_)
    refine x_iload (pc' := 70) dX5_copyInOrder_68 rfl rfl ?_
    refine x_iconst (pc' := 71) (x := 1) dX5_copyInOrder_70 (by decide) rfl ?_
    refine x_iload (pc' := 73) dX5_copyInOrder_71 rfl rfl ?_
    refine x_ishl (pc' := 74) dX5_copyInOrder_73 rfl ?_
    refine x_ior (pc' := 75) dX5_copyInOrder_74 rfl ?_
    refine x_istore (pc' := 77) (L' := [some (.ref 14), some (.int v1), some (.int v2), some (.int v3), some (.int v4), some (.int (v5 ||| ((1 : Int32) <<< (s0 &&& 31)))), some (.int v6), some (.int s0)]) dX5_copyInOrder_75 (Nat.le_of_ble_eq_true rfl) rfl rfl ?_
    exact r_X5_copyInOrder_77 K29 hK29 _ _ _ _ _ _ _ _ _ _ _ h
def F_X5_copyInOrder_29 : Nat → Int32 → Int32 → Int32 → Int32 → Int32 → Int32 → (Nat → Nat → Int32) → (Nat → Nat → Int64) → xRr → Option (Int32 × xSt)
  | 0, _, _, _, _, _, _, _, _, _ => none
  | n + 1, v1, v2, v3, v4, v5, v6, hi, hl, r => if v4 ≤ v6 then some (v5, hi, hl, r) else if v3 = 0 then F_X5_copyInOrder_52 (F_X5_copyInOrder_29 n) v1 v2 v3 v4 v5 v6 v6 hi hl r else F_X5_copyInOrder_52 (F_X5_copyInOrder_29 n) v1 v2 v3 v4 v5 v6 ((v4 - (1 : Int32)) - v6) hi hl r
set_option maxRecDepth 20000 in
set_option maxHeartbeats 2000000 in
theorem r_X5_copyInOrder_29 : ∀ (n : Nat) (v1 : Int32) (v2 : Int32) (v3 : Int32) (v4 : Int32) (v5 : Int32) (v6 : Int32) (d7 : Option Value) (hi : Nat → Nat → Int32) (hl : Nat → Nat → Int64) (r : xRr) (o : Int32 × xSt), F_X5_copyInOrder_29 n v1 v2 v3 v4 v5 v6 hi hl r = some o → xR (RX5, cX5_copyInOrder, 8, false, 1) (7, 0, 0) z 0 0 29 [some (.ref 14), some (.int v1), some (.int v2), some (.int v3), some (.int v4), some (.int v5), some (.int v6), d7] [] (xhp hi hl r) (xoI o) := by
  intro n
  induction n with
  | zero =>
    intro v1 v2 v3 v4 v5 v6 d7 hi hl r o h
    have h : none = some o := h
    cases h
  | succ n ih =>
    intro v1 v2 v3 v4 v5 v6 d7 hi hl r o h
    refine x_iload (pc' := 31) dX5_copyInOrder_29 rfl rfl ?_
    refine x_iload (pc' := 33) dX5_copyInOrder_31 rfl rfl ?_
    refine xg_ite h (fun g1 h => ?_) (fun g1 h => ?_)
    · refine x_icmp_ge (tgt := 83) (pc' := 36) dX5_copyInOrder_33 (by decide) rfl (fun _ => ?_) (fun hn => absurd g1 hn)
      refine x_iload (pc' := 85) dX5_copyInOrder_83 rfl rfl ?_
      obtain rfl := Option.some.inj h
      exact x_iret dX5_copyInOrder_85 rfl rfl (Nat.le_of_ble_eq_true rfl) rfl
    · refine x_icmp_ge (tgt := 83) (pc' := 36) dX5_copyInOrder_33 (by decide) rfl (fun hn => absurd hn g1) (fun _ => ?_)
      refine x_iload_n (pc' := 37) dX5_copyInOrder_36 rfl rfl ?_
      refine xg_ite h (fun g2 h => ?_) (fun g2 h => ?_)
      · refine x_if_eq (tgt := 50) (pc' := 40) dX5_copyInOrder_37 (by decide) rfl (fun _ => ?_) (fun hn => absurd g2 hn)
        refine x_iload (pc' := 52) dX5_copyInOrder_50 rfl rfl ?_
        exact r_X5_copyInOrder_52 (F_X5_copyInOrder_29 n) ih _ _ _ _ _ _ _ _ _ _ _ _ h
      · refine x_if_eq (tgt := 50) (pc' := 40) dX5_copyInOrder_37 (by decide) rfl (fun hn => absurd hn g2) (fun _ => ?_)
        refine x_iload (pc' := 42) dX5_copyInOrder_40 rfl rfl ?_
        refine x_iconst (pc' := 43) (x := 1) dX5_copyInOrder_42 (by decide) rfl ?_
        refine x_isub (pc' := 44) dX5_copyInOrder_43 rfl ?_
        refine x_iload (pc' := 46) dX5_copyInOrder_44 rfl rfl ?_
        refine x_isub (pc' := 47) dX5_copyInOrder_46 rfl ?_
        refine x_goto (tgt := 52) dX5_copyInOrder_47 (by decide) ?_
        exact r_X5_copyInOrder_52 (F_X5_copyInOrder_29 n) ih _ _ _ _ _ _ _ _ _ _ _ _ h
def F_X5_copyInOrder (v1 : Int32) (v2 : Int32) (v3 : Int32) (hi : Nat → Nat → Int32) (hl : Nat → Nat → Int64) (r : xRr) : Option (Int32 × xSt) := if xok v1 8 = true then if xok v2 8 = true then F_X5_copyInOrder_29 1000000 v1 v2 v3 (if (hi 11 (Int32.toNatClampNeg v2)) < (hi 11 (Int32.toNatClampNeg v1)) then (hi 11 (Int32.toNatClampNeg v2)) else (hi 11 (Int32.toNatClampNeg v1))) (0 : Int32) (0 : Int32) hi hl r else none else none
set_option maxRecDepth 20000 in
set_option maxHeartbeats 2000000 in
theorem r_X5_copyInOrder (v1 : Int32) (v2 : Int32) (v3 : Int32) (hi : Nat → Nat → Int32) (hl : Nat → Nat → Int64) (r : xRr) (o : Int32 × xSt) (h : F_X5_copyInOrder v1 v2 v3 hi hl r = some o) : xM yX5_copyInOrder cX5_copyInOrder 8 1 (7, 0, 0) z [.ref 14, .int v1, .int v2, .int v3] (xhp hi hl r) (xoI o) := by
  refine x_meth2 (C := RX5) (ini := false) (L := [some (.ref 14), some (.int v1), some (.int v2), some (.int v3), none, none, none, none]) rfl (by decide) (fun h9 => by cases h9) (by decide) (Nat.le_of_ble_eq_true rfl) rfl ?_
  refine x_aload_n (pc' := 1) dX5_copyInOrder_0 rfl rfl ?_
  refine x_getr (pc' := 4) (t := 6) dX5_copyInOrder_1 f_X5_29 (by decide) rfl rfl rfl rfl ?_
  refine x_getr (pc' := 7) (t := 11) dX5_copyInOrder_4 f_X5_149 (by decide) rfl rfl rfl rfl ?_
  refine x_iload_n (pc' := 8) dX5_copyInOrder_7 rfl rfl ?_
  refine xg_if h (fun g1 h => ?_)
  refine x_iald (pc' := 9) dX5_copyInOrder_8 (by decide) rfl (xok_in g1) rfl ?_
  refine x_aload_n (pc' := 10) dX5_copyInOrder_9 rfl rfl ?_
  refine x_getr (pc' := 13) (t := 6) dX5_copyInOrder_10 f_X5_29 (by decide) rfl rfl rfl rfl ?_
  refine x_getr (pc' := 16) (t := 11) dX5_copyInOrder_13 f_X5_149 (by decide) rfl rfl rfl rfl ?_
  refine x_iload_n (pc' := 17) dX5_copyInOrder_16 rfl rfl ?_
  refine xg_if h (fun g2 h => ?_)
  refine x_iald (pc' := 18) dX5_copyInOrder_17 (by decide) rfl (xok_in g2) rfl ?_
  refine x_mmin (pc' := 21) dX5_copyInOrder_18 ml_X5_152 ma_J9_min_7cf53 mc_math mb_J9_min_7cf53 (Nat.le_of_ble_eq_true rfl) (Nat.le_of_ble_eq_true rfl) (Nat.le_of_ble_eq_true rfl) (Nat.le_of_ble_eq_true rfl) rfl ?_
  refine x_istore (pc' := 23) (L' := [some (.ref 14), some (.int v1), some (.int v2), some (.int v3), some (.int (if (hi 11 (Int32.toNatClampNeg v2)) < (hi 11 (Int32.toNatClampNeg v1)) then (hi 11 (Int32.toNatClampNeg v2)) else (hi 11 (Int32.toNatClampNeg v1)))), none, none, none]) dX5_copyInOrder_21 (Nat.le_of_ble_eq_true rfl) rfl rfl ?_
  refine x_iconst (pc' := 24) (x := 0) dX5_copyInOrder_23 (by decide) rfl ?_
  refine x_istore (pc' := 26) (L' := [some (.ref 14), some (.int v1), some (.int v2), some (.int v3), some (.int (if (hi 11 (Int32.toNatClampNeg v2)) < (hi 11 (Int32.toNatClampNeg v1)) then (hi 11 (Int32.toNatClampNeg v2)) else (hi 11 (Int32.toNatClampNeg v1)))), some (.int (0 : Int32)), none, none]) dX5_copyInOrder_24 (Nat.le_of_ble_eq_true rfl) rfl rfl ?_
  refine x_iconst (pc' := 27) (x := 0) dX5_copyInOrder_26 (by decide) rfl ?_
  refine x_istore (pc' := 29) (L' := [some (.ref 14), some (.int v1), some (.int v2), some (.int v3), some (.int (if (hi 11 (Int32.toNatClampNeg v2)) < (hi 11 (Int32.toNatClampNeg v1)) then (hi 11 (Int32.toNatClampNeg v2)) else (hi 11 (Int32.toNatClampNeg v1)))), some (.int (0 : Int32)), some (.int (0 : Int32)), none]) dX5_copyInOrder_27 (Nat.le_of_ble_eq_true rfl) rfl rfl ?_
  exact r_X5_copyInOrder_29 1000000 _ _ _ _ _ _ _ _ _ _ _ h
def F_X8_readsAnything (v1 : Int32) (hi : Nat → Nat → Int32) (hl : Nat → Nat → Int64) (r : xRr) : Option (Int32 × xSt) := if xok v1 8 = true then if xok (hi 13 (Int32.toNatClampNeg v1)) 6 = true then if (hi 2 (Int32.toNatClampNeg (hi 13 (Int32.toNatClampNeg v1)))) < (8 : Int32) then some ((0 : Int32), hi, hl, r) else if (10 : Int32) < (hi 2 (Int32.toNatClampNeg (hi 13 (Int32.toNatClampNeg v1)))) then some ((0 : Int32), hi, hl, r) else some ((1 : Int32), hi, hl, r) else none else none
set_option maxRecDepth 20000 in
set_option maxHeartbeats 2000000 in
theorem r_X8_readsAnything (v1 : Int32) (hi : Nat → Nat → Int32) (hl : Nat → Nat → Int64) (r : xRr) (o : Int32 × xSt) (h : F_X8_readsAnything v1 hi hl r = some o) : xM yX8_readsAnything cX8_readsAnything 3 3 (0, 0, 0) z [.ref 6, .int v1] (xhp hi hl r) (xoI o) := by
  refine x_meth2 (C := RX8) (ini := false) (L := [some (.ref 6), some (.int v1), none]) rfl (by decide) (fun h9 => by cases h9) (by decide) (Nat.le_of_ble_eq_true rfl) rfl ?_
  refine x_aload_n (pc' := 1) dX8_readsAnything_0 rfl rfl ?_
  refine x_getr (pc' := 4) (t := 1) dX8_readsAnything_1 f_X8_33 (by decide) rfl rfl rfl rfl ?_
  refine x_getr (pc' := 7) (t := 2) dX8_readsAnything_4 f_X8_55 (by decide) rfl rfl rfl rfl ?_
  refine x_aload_n (pc' := 8) dX8_readsAnything_7 rfl rfl ?_
  refine x_getr (pc' := 11) (t := 13) dX8_readsAnything_8 f_X8_30 (by decide) rfl rfl rfl rfl ?_
  refine x_iload_n (pc' := 12) dX8_readsAnything_11 rfl rfl ?_
  refine xg_if h (fun g1 h => ?_)
  refine x_iald (pc' := 13) dX8_readsAnything_12 (by decide) rfl (xok_in g1) rfl ?_
  refine xg_if h (fun g2 h => ?_)
  refine x_iald (pc' := 14) dX8_readsAnything_13 (by decide) rfl (xok_in g2) rfl ?_
  refine x_istore_n (pc' := 15) (L' := [some (.ref 6), some (.int v1), some (.int (hi 2 (Int32.toNatClampNeg (hi 13 (Int32.toNatClampNeg v1)))))]) dX8_readsAnything_14 (Nat.le_of_ble_eq_true rfl) rfl rfl ?_
  refine x_iload_n (pc' := 16) dX8_readsAnything_15 rfl rfl ?_
  refine x_bipush (pc' := 18) (x := 8) dX8_readsAnything_16 (by decide) rfl ?_
  refine xg_ite h (fun g3 h => ?_) (fun g3 h => ?_)
  · refine x_icmp_lt (tgt := 31) (pc' := 21) dX8_readsAnything_18 (by decide) rfl (fun _ => ?_) (fun hn => absurd g3 hn)
    refine x_iconst (pc' := 32) (x := 0) dX8_readsAnything_31 (by decide) rfl ?_
    obtain rfl := Option.some.inj h
    exact x_zret dX8_readsAnything_32 rfl (Or.inl rfl) rfl (Nat.le_of_ble_eq_true rfl) rfl
  · refine x_icmp_lt (tgt := 31) (pc' := 21) dX8_readsAnything_18 (by decide) rfl (fun hn => absurd hn g3) (fun _ => ?_)
    refine x_iload_n (pc' := 22) dX8_readsAnything_21 rfl rfl ?_
    refine x_bipush (pc' := 24) (x := 10) dX8_readsAnything_22 (by decide) rfl ?_
    refine xg_ite h (fun g4 h => ?_) (fun g4 h => ?_)
    · refine x_icmp_gt (tgt := 31) (pc' := 27) dX8_readsAnything_24 (by decide) rfl (fun _ => ?_) (fun hn => absurd g4 hn)
      refine x_iconst (pc' := 32) (x := 0) dX8_readsAnything_31 (by decide) rfl ?_
      obtain rfl := Option.some.inj h
      exact x_zret dX8_readsAnything_32 rfl (Or.inl rfl) rfl (Nat.le_of_ble_eq_true rfl) rfl
    · refine x_icmp_gt (tgt := 31) (pc' := 27) dX8_readsAnything_24 (by decide) rfl (fun hn => absurd hn g4) (fun _ => ?_)
      refine x_iconst (pc' := 28) (x := 1) dX8_readsAnything_27 (by decide) rfl ?_
      refine x_goto (tgt := 32) dX8_readsAnything_28 (by decide) ?_
      obtain rfl := Option.some.inj h
      exact x_zret dX8_readsAnything_32 rfl (Or.inr rfl) rfl (Nat.le_of_ble_eq_true rfl) rfl
def F_X8_kindRead_57 (K17 : Int32 → Int32 → Int32 → (Nat → Nat → Int32) → (Nat → Nat → Int64) → xRr → Option (Int32 × xSt)) (v1 : Int32) (v3 : Int32) (s0 : Int32) (hi : Nat → Nat → Int32) (hl : Nat → Nat → Int64) (r : xRr) : Option (Int32 × xSt) := K17 v1 s0 (v3 + (1)) hi hl r
set_option maxRecDepth 20000 in
set_option maxHeartbeats 2000000 in
theorem r_X8_kindRead_57 (K17 : Int32 → Int32 → Int32 → (Nat → Nat → Int32) → (Nat → Nat → Int64) → xRr → Option (Int32 × xSt)) (hK17 : ∀ (v1 : Int32) (v2 : Int32) (v3 : Int32) (d4 : Option Value) (hi : Nat → Nat → Int32) (hl : Nat → Nat → Int64) (r : xRr) (o : Int32 × xSt), K17 v1 v2 v3 hi hl r = some o → xR (RX8, cX8_kindRead, 5, false, 1) (0, 0, 0) z 0 0 17 [some (.ref 6), some (.int v1), some (.int v2), some (.int v3), d4] [] (xhp hi hl r) (xoI o)) (v1 : Int32) (v3 : Int32) (s0 : Int32) (d2 : Option Value) (d4 : Option Value) (hi : Nat → Nat → Int32) (hl : Nat → Nat → Int64) (r : xRr) (o : Int32 × xSt) (h : F_X8_kindRead_57 K17 v1 v3 s0 hi hl r = some o) : xR (RX8, cX8_kindRead, 5, false, 1) (0, 0, 0) z 0 0 57 [some (.ref 6), some (.int v1), d2, some (.int v3), d4] [.int s0] (xhp hi hl r) (xoI o) := by
  refine x_istore_n (pc' := 58) (L' := [some (.ref 6), some (.int v1), some (.int s0), some (.int v3), d4]) dX8_kindRead_57 (Nat.le_of_ble_eq_true rfl) rfl rfl ?_
  refine x_iinc (pc' := 61) (v := (v3 + (1))) (L' := [some (.ref 6), some (.int v1), some (.int s0), some (.int (v3 + (1))), d4]) dX8_kindRead_58 rfl rfl (Nat.le_of_ble_eq_true rfl) rfl rfl ?_
  refine x_goto (tgt := 17) dX8_kindRead_61 (by decide) ?_
  exact hK17 _ _ _ _ _ _ _ _ h
def F_X8_kindRead_17 : Nat → Int32 → Int32 → Int32 → (Nat → Nat → Int32) → (Nat → Nat → Int64) → xRr → Option (Int32 × xSt)
  | 0, _, _, _, _, _, _ => none
  | n + 1, v1, v2, v3, hi, hl, r => if xok v1 8 = true then if (hi 9 (Int32.toNatClampNeg v1)) ≤ v3 then some (v2, hi, hl, r) else if xok ((v1 * (4 : Int32)) + v3) 32 = true then if xok (hi 10 (Int32.toNatClampNeg ((v1 * (4 : Int32)) + v3))) 8 = true then if (7 : Int32) < (hi 12 (Int32.toNatClampNeg (hi 10 (Int32.toNatClampNeg ((v1 * (4 : Int32)) + v3))))) then F_X8_kindRead_57 (F_X8_kindRead_17 n) v1 v3 v2 hi hl r else F_X8_kindRead_57 (F_X8_kindRead_17 n) v1 v3 (hi 12 (Int32.toNatClampNeg (hi 10 (Int32.toNatClampNeg ((v1 * (4 : Int32)) + v3))))) hi hl r else none else none else none
set_option maxRecDepth 20000 in
set_option maxHeartbeats 2000000 in
theorem r_X8_kindRead_17 : ∀ (n : Nat) (v1 : Int32) (v2 : Int32) (v3 : Int32) (d4 : Option Value) (hi : Nat → Nat → Int32) (hl : Nat → Nat → Int64) (r : xRr) (o : Int32 × xSt), F_X8_kindRead_17 n v1 v2 v3 hi hl r = some o → xR (RX8, cX8_kindRead, 5, false, 1) (0, 0, 0) z 0 0 17 [some (.ref 6), some (.int v1), some (.int v2), some (.int v3), d4] [] (xhp hi hl r) (xoI o) := by
  intro n
  induction n with
  | zero =>
    intro v1 v2 v3 d4 hi hl r o h
    have h : none = some o := h
    cases h
  | succ n ih =>
    intro v1 v2 v3 d4 hi hl r o h
    refine x_iload_n (pc' := 18) dX8_kindRead_17 rfl rfl ?_
    refine x_aload_n (pc' := 19) dX8_kindRead_18 rfl rfl ?_
    refine x_getr (pc' := 22) (t := 9) dX8_kindRead_19 f_X8_18 (by decide) rfl rfl rfl rfl ?_
    refine x_iload_n (pc' := 23) dX8_kindRead_22 rfl rfl ?_
    refine xg_if h (fun g1 h => ?_)
    refine x_iald (pc' := 24) dX8_kindRead_23 (by decide) rfl (xok_in g1) rfl ?_
    refine xg_ite h (fun g2 h => ?_) (fun g2 h => ?_)
    · refine x_icmp_ge (tgt := 64) (pc' := 27) dX8_kindRead_24 (by decide) rfl (fun _ => ?_) (fun hn => absurd g2 hn)
      refine x_iload_n (pc' := 65) dX8_kindRead_64 rfl rfl ?_
      obtain rfl := Option.some.inj h
      exact x_iret dX8_kindRead_65 rfl rfl (Nat.le_of_ble_eq_true rfl) rfl
    · refine x_icmp_ge (tgt := 64) (pc' := 27) dX8_kindRead_24 (by decide) rfl (fun hn => absurd hn g2) (fun _ => ?_)
      refine x_aload_n (pc' := 28) dX8_kindRead_27 rfl rfl ?_
      refine x_getr (pc' := 31) (t := 12) dX8_kindRead_28 f_X8_27 (by decide) rfl rfl rfl rfl ?_
      refine x_aload_n (pc' := 32) dX8_kindRead_31 rfl rfl ?_
      refine x_getr (pc' := 35) (t := 10) dX8_kindRead_32 f_X8_21 (by decide) rfl rfl rfl rfl ?_
      refine x_iload_n (pc' := 36) dX8_kindRead_35 rfl rfl ?_
      refine x_iconst (pc' := 37) (x := 4) dX8_kindRead_36 (by decide) rfl ?_
      refine x_imul (pc' := 38) dX8_kindRead_37 rfl ?_
      refine x_iload_n (pc' := 39) dX8_kindRead_38 rfl rfl ?_
      refine x_iadd (pc' := 40) dX8_kindRead_39 rfl ?_
      refine xg_if h (fun g3 h => ?_)
      refine x_iald (pc' := 41) dX8_kindRead_40 (by decide) rfl (xok_in g3) rfl ?_
      refine xg_if h (fun g4 h => ?_)
      refine x_iald (pc' := 42) dX8_kindRead_41 (by decide) rfl (xok_in g4) rfl ?_
      refine x_istore (pc' := 44) (L' := [some (.ref 6), some (.int v1), some (.int v2), some (.int v3), some (.int (hi 12 (Int32.toNatClampNeg (hi 10 (Int32.toNatClampNeg ((v1 * (4 : Int32)) + v3))))))]) dX8_kindRead_42 (Nat.le_of_ble_eq_true rfl) rfl rfl ?_
      refine x_iload (pc' := 46) dX8_kindRead_44 rfl rfl ?_
      refine x_bipush (pc' := 48) (x := 7) dX8_kindRead_46 (by decide) rfl ?_
      refine xg_ite h (fun g5 h => ?_) (fun g5 h => ?_)
      · refine x_icmp_gt (tgt := 56) (pc' := 51) dX8_kindRead_48 (by decide) rfl (fun _ => ?_) (fun hn => absurd g5 hn)
        refine x_iload_n (pc' := 57) dX8_kindRead_56 rfl rfl ?_
        exact r_X8_kindRead_57 (F_X8_kindRead_17 n) ih _ _ _ _ _ _ _ _ _ h
      · refine x_icmp_gt (tgt := 56) (pc' := 51) dX8_kindRead_48 (by decide) rfl (fun hn => absurd hn g5) (fun _ => ?_)
        refine x_iload (pc' := 53) dX8_kindRead_51 rfl rfl ?_
        refine x_goto (tgt := 57) dX8_kindRead_53 (by decide) ?_
        exact r_X8_kindRead_57 (F_X8_kindRead_17 n) ih _ _ _ _ _ _ _ _ _ h
def F_X8_kindRead (v1 : Int32) (hi : Nat → Nat → Int32) (hl : Nat → Nat → Int64) (r : xRr) : Option (Int32 × xSt) := if xok v1 8 = true then if xok (hi 13 (Int32.toNatClampNeg v1)) 6 = true then F_X8_kindRead_17 1000000 v1 (hi 2 (Int32.toNatClampNeg (hi 13 (Int32.toNatClampNeg v1)))) (0 : Int32) hi hl r else none else none
set_option maxRecDepth 20000 in
set_option maxHeartbeats 2000000 in
theorem r_X8_kindRead (v1 : Int32) (hi : Nat → Nat → Int32) (hl : Nat → Nat → Int64) (r : xRr) (o : Int32 × xSt) (h : F_X8_kindRead v1 hi hl r = some o) : xM yX8_kindRead cX8_kindRead 5 1 (0, 0, 0) z [.ref 6, .int v1] (xhp hi hl r) (xoI o) := by
  refine x_meth2 (C := RX8) (ini := false) (L := [some (.ref 6), some (.int v1), none, none, none]) rfl (by decide) (fun h9 => by cases h9) (by decide) (Nat.le_of_ble_eq_true rfl) rfl ?_
  refine x_aload_n (pc' := 1) dX8_kindRead_0 rfl rfl ?_
  refine x_getr (pc' := 4) (t := 1) dX8_kindRead_1 f_X8_33 (by decide) rfl rfl rfl rfl ?_
  refine x_getr (pc' := 7) (t := 2) dX8_kindRead_4 f_X8_55 (by decide) rfl rfl rfl rfl ?_
  refine x_aload_n (pc' := 8) dX8_kindRead_7 rfl rfl ?_
  refine x_getr (pc' := 11) (t := 13) dX8_kindRead_8 f_X8_30 (by decide) rfl rfl rfl rfl ?_
  refine x_iload_n (pc' := 12) dX8_kindRead_11 rfl rfl ?_
  refine xg_if h (fun g1 h => ?_)
  refine x_iald (pc' := 13) dX8_kindRead_12 (by decide) rfl (xok_in g1) rfl ?_
  refine xg_if h (fun g2 h => ?_)
  refine x_iald (pc' := 14) dX8_kindRead_13 (by decide) rfl (xok_in g2) rfl ?_
  refine x_istore_n (pc' := 15) (L' := [some (.ref 6), some (.int v1), some (.int (hi 2 (Int32.toNatClampNeg (hi 13 (Int32.toNatClampNeg v1))))), none, none]) dX8_kindRead_14 (Nat.le_of_ble_eq_true rfl) rfl rfl ?_
  refine x_iconst (pc' := 16) (x := 0) dX8_kindRead_15 (by decide) rfl ?_
  refine x_istore_n (pc' := 17) (L' := [some (.ref 6), some (.int v1), some (.int (hi 2 (Int32.toNatClampNeg (hi 13 (Int32.toNatClampNeg v1))))), some (.int (0 : Int32)), none]) dX8_kindRead_16 (Nat.le_of_ble_eq_true rfl) rfl rfl ?_
  exact r_X8_kindRead_17 1000000 _ _ _ _ _ _ _ _ h
def F_X5_foretoldAs (v0 : Int32) : Option (Int32) := if v0 = 0 then some (6 : Int32) else some (((-4) : Int32) - v0)
set_option maxRecDepth 20000 in
set_option maxHeartbeats 2000000 in
theorem r_X5_foretoldAs (v0 : Int32) (H : xHp) (o : Int32) (h : F_X5_foretoldAs v0 = some o) : xM yX5_foretoldAs cX5_foretoldAs 1 1 (0, 0, 0) z [.int v0] H (some (.int o), H) := by
  refine x_meth2 (C := RX5) (ini := false) (L := [some (.int v0)]) rfl (by decide) (fun h9 => by cases h9) (by decide) (Nat.le_of_ble_eq_true rfl) rfl ?_
  refine x_iload_n (pc' := 1) dX5_foretoldAs_0 rfl rfl ?_
  refine xg_ite h (fun g1 h => ?_) (fun g1 h => ?_)
  · refine x_if_ne (tgt := 9) (pc' := 4) dX5_foretoldAs_1 (by decide) rfl (fun hn => absurd g1 hn) (fun _ => ?_)
    refine x_bipush (pc' := 6) (x := 6) dX5_foretoldAs_4 (by decide) rfl ?_
    refine x_goto (tgt := 13) dX5_foretoldAs_6 (by decide) ?_
    obtain rfl := Option.some.inj h
    exact x_iret dX5_foretoldAs_13 rfl rfl (Nat.le_of_ble_eq_true rfl) rfl
  · refine x_if_ne (tgt := 9) (pc' := 4) dX5_foretoldAs_1 (by decide) rfl (fun _ => ?_) (fun hn => absurd hn g1)
    refine x_bipush (pc' := 11) (x := (-4)) dX5_foretoldAs_9 (by decide) rfl ?_
    refine x_iload_n (pc' := 12) dX5_foretoldAs_11 rfl rfl ?_
    refine x_isub (pc' := 13) dX5_foretoldAs_12 rfl ?_
    obtain rfl := Option.some.inj h
    exact x_iret dX5_foretoldAs_13 rfl rfl (Nat.le_of_ble_eq_true rfl) rfl
def F_X5_reckonRefusal (v1 : Int32) (v2 : Int32) (v3 : Int32) (hi : Nat → Nat → Int32) (hl : Nat → Nat → Int64) (r : xRr) : Option (Int32 × xSt) := xbI (F_X8_kindRead v1 hi hl r) (fun w2 hi2 hl2 r2 => xbI (F_X8_kindRead v2 hi2 hl2 r2) (fun w4 hi4 hl4 r4 => xbP (F_X5_noTerm w2) (fun w6 => if w6 = 0 then xbP (F_X5_noTerm w4) (fun w9 => if w9 = 0 then xbP (F_X5_widerKind w2 w4) (fun w12 => xbI (F_X5_byOfResult v2 w12 hi4 hl4 r4) (fun w14 hi14 hl14 r14 => xbI (F_X8_writeRefusal v2 v3 w12 w14 hi14 hl14 r14) (fun w16 hi16 hl16 r16 => some (w16, hi16, hl16, r16)))) else some (((-7) : Int32), hi4, hl4, r4)) else some (((-7) : Int32), hi4, hl4, r4))))
set_option maxRecDepth 20000 in
set_option maxHeartbeats 2000000 in
theorem r_X5_reckonRefusal (v1 : Int32) (v2 : Int32) (v3 : Int32) (hi : Nat → Nat → Int32) (hl : Nat → Nat → Int64) (r : xRr) (o : Int32 × xSt) (h : F_X5_reckonRefusal v1 v2 v3 hi hl r = some o) : xM yX5_reckonRefusal cX5_reckonRefusal 7 1 (3, 0, 0) z [.ref 14, .int v1, .int v2, .int v3] (xhp hi hl r) (xoI o) := by
  refine x_meth2 (C := RX5) (ini := false) (L := [some (.ref 14), some (.int v1), some (.int v2), some (.int v3), none, none, none]) rfl (by decide) (fun h9 => by cases h9) (by decide) (Nat.le_of_ble_eq_true rfl) rfl ?_
  refine x_aload_n (pc' := 1) dX5_reckonRefusal_0 rfl rfl ?_
  refine x_getr (pc' := 4) (t := 6) dX5_reckonRefusal_1 f_X5_29 (by decide) rfl rfl rfl rfl ?_
  refine x_iload_n (pc' := 5) dX5_reckonRefusal_4 rfl rfl ?_
  refine xg_bI h (fun w2 hi2 hl2 r2 e1 h => ?_)
  refine x_callV (pc' := 8) (S := []) (As := [.int v1]) (b' := (0, 0, 0)) dX5_reckonRefusal_5 l_X5_140 m_X8_kindRead rfl rfl (show 6 < 122 by decide) rfl (Nat.le_of_ble_eq_true rfl) (Nat.le_of_ble_eq_true rfl) (Nat.le_of_ble_eq_true rfl) (Nat.le_of_ble_eq_true rfl) (r_X8_kindRead _ _ _ _ _ e1) rfl ?_
  refine x_istore (pc' := 10) (L' := [some (.ref 14), some (.int v1), some (.int v2), some (.int v3), some (.int w2), none, none]) dX5_reckonRefusal_8 (Nat.le_of_ble_eq_true rfl) rfl rfl ?_
  refine x_aload_n (pc' := 11) dX5_reckonRefusal_10 rfl rfl ?_
  refine x_getr (pc' := 14) (t := 6) dX5_reckonRefusal_11 f_X5_29 (by decide) rfl rfl rfl rfl ?_
  refine x_iload_n (pc' := 15) dX5_reckonRefusal_14 rfl rfl ?_
  refine xg_bI h (fun w4 hi4 hl4 r4 e3 h => ?_)
  refine x_callV (pc' := 18) (S := []) (As := [.int v2]) (b' := (0, 0, 0)) dX5_reckonRefusal_15 l_X5_140 m_X8_kindRead rfl rfl (show 6 < 122 by decide) rfl (Nat.le_of_ble_eq_true rfl) (Nat.le_of_ble_eq_true rfl) (Nat.le_of_ble_eq_true rfl) (Nat.le_of_ble_eq_true rfl) (r_X8_kindRead _ _ _ _ _ e3) rfl ?_
  refine x_istore (pc' := 20) (L' := [some (.ref 14), some (.int v1), some (.int v2), some (.int v3), some (.int w2), some (.int w4), none]) dX5_reckonRefusal_18 (Nat.le_of_ble_eq_true rfl) rfl rfl ?_
  refine x_iload (pc' := 22) dX5_reckonRefusal_20 rfl rfl ?_
  refine xg_bP h (fun w6 e5 h => ?_)
  refine x_callS (pc' := 25) (S := []) (As := [.int w2]) (b' := (0, 0, 0)) dX5_reckonRefusal_22 l_X5_92 m_X5_noTerm rfl rfl (Nat.le_of_ble_eq_true rfl) (Nat.le_of_ble_eq_true rfl) (Nat.le_of_ble_eq_true rfl) (Nat.le_of_ble_eq_true rfl) (r_X5_noTerm _ _ _ e5) rfl ?_
  refine xg_ite h (fun g7 h => ?_) (fun g7 h => ?_)
  · refine x_if_ne (tgt := 36) (pc' := 28) dX5_reckonRefusal_25 (by decide) rfl (fun hn => absurd g7 hn) (fun _ => ?_)
    refine x_iload (pc' := 30) dX5_reckonRefusal_28 rfl rfl ?_
    refine xg_bP h (fun w9 e8 h => ?_)
    refine x_callS (pc' := 33) (S := []) (As := [.int w4]) (b' := (0, 0, 0)) dX5_reckonRefusal_30 l_X5_92 m_X5_noTerm rfl rfl (Nat.le_of_ble_eq_true rfl) (Nat.le_of_ble_eq_true rfl) (Nat.le_of_ble_eq_true rfl) (Nat.le_of_ble_eq_true rfl) (r_X5_noTerm _ _ _ e8) rfl ?_
    refine xg_ite h (fun g10 h => ?_) (fun g10 h => ?_)
    · refine x_if_eq (tgt := 39) (pc' := 36) dX5_reckonRefusal_33 (by decide) rfl (fun _ => ?_) (fun hn => absurd g10 hn)
      refine x_iload (pc' := 41) dX5_reckonRefusal_39 rfl rfl ?_
      refine x_iload (pc' := 43) dX5_reckonRefusal_41 rfl rfl ?_
      refine xg_bP h (fun w12 e11 h => ?_)
      refine x_callS (pc' := 46) (S := []) (As := [.int w2, .int w4]) (b' := (1, 0, 0)) dX5_reckonRefusal_43 l_X5_96 m_X5_widerKind rfl rfl (Nat.le_of_ble_eq_true rfl) (Nat.le_of_ble_eq_true rfl) (Nat.le_of_ble_eq_true rfl) (Nat.le_of_ble_eq_true rfl) (r_X5_widerKind _ _ _ _ e11) rfl ?_
      refine x_istore (pc' := 48) (L' := [some (.ref 14), some (.int v1), some (.int v2), some (.int v3), some (.int w2), some (.int w4), some (.int w12)]) dX5_reckonRefusal_46 (Nat.le_of_ble_eq_true rfl) rfl rfl ?_
      refine x_aload_n (pc' := 49) dX5_reckonRefusal_48 rfl rfl ?_
      refine x_getr (pc' := 52) (t := 6) dX5_reckonRefusal_49 f_X5_29 (by decide) rfl rfl rfl rfl ?_
      refine x_iload_n (pc' := 53) dX5_reckonRefusal_52 rfl rfl ?_
      refine x_iload_n (pc' := 54) dX5_reckonRefusal_53 rfl rfl ?_
      refine x_iload (pc' := 56) dX5_reckonRefusal_54 rfl rfl ?_
      refine x_aload_n (pc' := 57) dX5_reckonRefusal_56 rfl rfl ?_
      refine x_iload_n (pc' := 58) dX5_reckonRefusal_57 rfl rfl ?_
      refine x_iload (pc' := 60) dX5_reckonRefusal_58 rfl rfl ?_
      refine xg_bI h (fun w14 hi14 hl14 r14 e13 h => ?_)
      refine x_callV (pc' := 63) (S := [.int w12, .int v3, .int v2, .ref 6]) (As := [.int v2, .int w12]) (b' := (0, 0, 0)) dX5_reckonRefusal_60 l_X5_125 m_X5_byOfResult rfl rfl (show 14 < 122 by decide) rfl (Nat.le_of_ble_eq_true rfl) (Nat.le_of_ble_eq_true rfl) (Nat.le_of_ble_eq_true rfl) (Nat.le_of_ble_eq_true rfl) (r_X5_byOfResult _ _ _ _ _ _ e13) rfl ?_
      refine xg_bI h (fun w16 hi16 hl16 r16 e15 h => ?_)
      refine x_callV (pc' := 66) (S := []) (As := [.int v2, .int v3, .int w12, .int w14]) (b' := (2, 0, 0)) dX5_reckonRefusal_63 l_X5_60 m_X8_writeRefusal rfl rfl (show 6 < 122 by decide) rfl (Nat.le_of_ble_eq_true rfl) (Nat.le_of_ble_eq_true rfl) (Nat.le_of_ble_eq_true rfl) (Nat.le_of_ble_eq_true rfl) (r_X8_writeRefusal _ _ _ _ _ _ _ _ e15) rfl ?_
      obtain rfl := Option.some.inj h
      exact x_iret dX5_reckonRefusal_66 rfl rfl (Nat.le_of_ble_eq_true rfl) rfl
    · refine x_if_eq (tgt := 39) (pc' := 36) dX5_reckonRefusal_33 (by decide) rfl (fun hn => absurd hn g10) (fun _ => ?_)
      refine x_bipush (pc' := 38) (x := (-7)) dX5_reckonRefusal_36 (by decide) rfl ?_
      obtain rfl := Option.some.inj h
      exact x_iret dX5_reckonRefusal_38 rfl rfl (Nat.le_of_ble_eq_true rfl) rfl
  · refine x_if_ne (tgt := 36) (pc' := 28) dX5_reckonRefusal_25 (by decide) rfl (fun _ => ?_) (fun hn => absurd hn g7)
    refine x_bipush (pc' := 38) (x := (-7)) dX5_reckonRefusal_36 (by decide) rfl ?_
    obtain rfl := Option.some.inj h
    exact x_iret dX5_reckonRefusal_38 rfl rfl (Nat.le_of_ble_eq_true rfl) rfl
def F_X5_foretell (v1 : Int32) (v2 : Int32) (v3 : Int32) (v4 : Int32) (v5 : Int32) (hi : Nat → Nat → Int32) (hl : Nat → Nat → Int64) (r : xRr) : Option (Int32 × xSt) := xbI (F_X8_readRefusal v2 v3 hi hl r) (fun w2 hi2 hl2 r2 => if w2 = 0 then xbI (F_X8_readsAnything v2 hi2 hl2 r2) (fun w5 hi5 hl5 r5 => if w5 = 0 then if v1 = 0 then xbI (F_X8_kindRead v2 hi5 hl5 r5) (fun w9 hi9 hl9 r9 => if xok v2 8 = true then xbI (F_X8_writeRefusal v4 v5 w9 (hi9 12 (Int32.toNatClampNeg v2)) hi9 hl9 r9) (fun w12 hi12 hl12 r12 => xbP (F_X5_foretoldAs w12) (fun w14 => some (w14, hi12, hl12, r12))) else none) else xbI (F_X8_readRefusal v4 v5 hi5 hl5 r5) (fun w16 hi16 hl16 r16 => if w16 = 0 then xbI (F_X8_readsAnything v4 hi16 hl16 r16) (fun w19 hi19 hl19 r19 => if w19 = 0 then if v1 = (4 : Int32) then xbI (F_X8_kindRead v2 hi19 hl19 r19) (fun w23 hi23 hl23 r23 => xbI (F_X8_kindRead v4 hi23 hl23 r23) (fun w25 hi25 hl25 r25 => xbI (F_X5_swapRefusal v2 v3 w23 v4 v5 w25 hi25 hl25 r25) (fun w27 hi27 hl27 r27 => xbP (F_X5_foretoldAs w27) (fun w29 => some (w29, hi27, hl27, r27))))) else xbI (F_X5_reckonRefusal v2 v4 v5 hi19 hl19 r19) (fun w31 hi31 hl31 r31 => xbP (F_X5_foretoldAs w31) (fun w33 => some (w33, hi31, hl31, r31))) else some ((5 : Int32), hi19, hl19, r19)) else some ((((-4) : Int32) - w16), hi16, hl16, r16)) else some ((5 : Int32), hi5, hl5, r5)) else some ((((-4) : Int32) - w2), hi2, hl2, r2))
set_option maxRecDepth 20000 in
set_option maxHeartbeats 2000000 in
theorem r_X5_foretell (v1 : Int32) (v2 : Int32) (v3 : Int32) (v4 : Int32) (v5 : Int32) (hi : Nat → Nat → Int32) (hl : Nat → Nat → Int64) (r : xRr) (o : Int32 × xSt) (h : F_X5_foretell v1 v2 v3 v4 v5 hi hl r = some o) : xM yX5_foretell cX5_foretell 7 1 (4, 0, 0) z [.ref 14, .int v1, .int v2, .int v3, .int v4, .int v5] (xhp hi hl r) (xoI o) := by
  refine x_meth2 (C := RX5) (ini := false) (L := [some (.ref 14), some (.int v1), some (.int v2), some (.int v3), some (.int v4), some (.int v5), none]) rfl (by decide) (fun h9 => by cases h9) (by decide) (Nat.le_of_ble_eq_true rfl) rfl ?_
  refine x_aload_n (pc' := 1) dX5_foretell_0 rfl rfl ?_
  refine x_getr (pc' := 4) (t := 6) dX5_foretell_1 f_X5_29 (by decide) rfl rfl rfl rfl ?_
  refine x_iload_n (pc' := 5) dX5_foretell_4 rfl rfl ?_
  refine x_iload_n (pc' := 6) dX5_foretell_5 rfl rfl ?_
  refine xg_bI h (fun w2 hi2 hl2 r2 e1 h => ?_)
  refine x_callV (pc' := 9) (S := []) (As := [.int v2, .int v3]) (b' := (2, 0, 0)) dX5_foretell_6 l_X5_33 m_X8_readRefusal rfl rfl (show 6 < 122 by decide) rfl (Nat.le_of_ble_eq_true rfl) (Nat.le_of_ble_eq_true rfl) (Nat.le_of_ble_eq_true rfl) (Nat.le_of_ble_eq_true rfl) (r_X8_readRefusal _ _ _ _ _ _ e1) rfl ?_
  refine x_istore (pc' := 11) (L' := [some (.ref 14), some (.int v1), some (.int v2), some (.int v3), some (.int v4), some (.int v5), some (.int w2)]) dX5_foretell_9 (Nat.le_of_ble_eq_true rfl) rfl rfl ?_
  refine x_iload (pc' := 13) dX5_foretell_11 rfl rfl ?_
  refine xg_ite h (fun g3 h => ?_) (fun g3 h => ?_)
  · refine x_if_eq (tgt := 22) (pc' := 16) dX5_foretell_13 (by decide) rfl (fun _ => ?_) (fun hn => absurd g3 hn)
    refine x_aload_n (pc' := 23) dX5_foretell_22 rfl rfl ?_
    refine x_getr (pc' := 26) (t := 6) dX5_foretell_23 f_X5_29 (by decide) rfl rfl rfl rfl ?_
    refine x_iload_n (pc' := 27) dX5_foretell_26 rfl rfl ?_
    refine xg_bI h (fun w5 hi5 hl5 r5 e4 h => ?_)
    refine x_callV (pc' := 30) (S := []) (As := [.int v2]) (b' := (0, 0, 0)) dX5_foretell_27 l_X5_136 m_X8_readsAnything rfl rfl (show 6 < 122 by decide) rfl (Nat.le_of_ble_eq_true rfl) (Nat.le_of_ble_eq_true rfl) (Nat.le_of_ble_eq_true rfl) (Nat.le_of_ble_eq_true rfl) (r_X8_readsAnything _ _ _ _ _ e4) rfl ?_
    refine xg_ite h (fun g6 h => ?_) (fun g6 h => ?_)
    · refine x_if_eq (tgt := 35) (pc' := 33) dX5_foretell_30 (by decide) rfl (fun _ => ?_) (fun hn => absurd g6 hn)
      refine x_iload_n (pc' := 36) dX5_foretell_35 rfl rfl ?_
      refine xg_ite h (fun g7 h => ?_) (fun g7 h => ?_)
      · refine x_if_ne (tgt := 71) (pc' := 39) dX5_foretell_36 (by decide) rfl (fun hn => absurd g7 hn) (fun _ => ?_)
        refine x_aload_n (pc' := 40) dX5_foretell_39 rfl rfl ?_
        refine x_getr (pc' := 43) (t := 6) dX5_foretell_40 f_X5_29 (by decide) rfl rfl rfl rfl ?_
        refine x_iload (pc' := 45) dX5_foretell_43 rfl rfl ?_
        refine x_iload (pc' := 47) dX5_foretell_45 rfl rfl ?_
        refine x_aload_n (pc' := 48) dX5_foretell_47 rfl rfl ?_
        refine x_getr (pc' := 51) (t := 6) dX5_foretell_48 f_X5_29 (by decide) rfl rfl rfl rfl ?_
        refine x_iload_n (pc' := 52) dX5_foretell_51 rfl rfl ?_
        refine xg_bI h (fun w9 hi9 hl9 r9 e8 h => ?_)
        refine x_callV (pc' := 55) (S := [.int v5, .int v4, .ref 6]) (As := [.int v2]) (b' := (0, 0, 0)) dX5_foretell_52 l_X5_140 m_X8_kindRead rfl rfl (show 6 < 122 by decide) rfl (Nat.le_of_ble_eq_true rfl) (Nat.le_of_ble_eq_true rfl) (Nat.le_of_ble_eq_true rfl) (Nat.le_of_ble_eq_true rfl) (r_X8_kindRead _ _ _ _ _ e8) rfl ?_
        refine x_aload_n (pc' := 56) dX5_foretell_55 rfl rfl ?_
        refine x_getr (pc' := 59) (t := 6) dX5_foretell_56 f_X5_29 (by decide) rfl rfl rfl rfl ?_
        refine x_getr (pc' := 62) (t := 12) dX5_foretell_59 f_X5_74 (by decide) rfl rfl rfl rfl ?_
        refine x_iload_n (pc' := 63) dX5_foretell_62 rfl rfl ?_
        refine xg_if h (fun g10 h => ?_)
        refine x_iald (pc' := 64) dX5_foretell_63 (by decide) rfl (xok_in g10) rfl ?_
        refine xg_bI h (fun w12 hi12 hl12 r12 e11 h => ?_)
        refine x_callV (pc' := 67) (S := []) (As := [.int v4, .int v5, .int w9, .int (hi9 12 (Int32.toNatClampNeg v2))]) (b' := (2, 0, 0)) dX5_foretell_64 l_X5_60 m_X8_writeRefusal rfl rfl (show 6 < 122 by decide) rfl (Nat.le_of_ble_eq_true rfl) (Nat.le_of_ble_eq_true rfl) (Nat.le_of_ble_eq_true rfl) (Nat.le_of_ble_eq_true rfl) (r_X8_writeRefusal _ _ _ _ _ _ _ _ e11) rfl ?_
        refine xg_bP h (fun w14 e13 h => ?_)
        refine x_callS (pc' := 70) (S := []) (As := [.int w12]) (b' := (0, 0, 0)) dX5_foretell_67 l_X5_143 m_X5_foretoldAs rfl rfl (Nat.le_of_ble_eq_true rfl) (Nat.le_of_ble_eq_true rfl) (Nat.le_of_ble_eq_true rfl) (Nat.le_of_ble_eq_true rfl) (r_X5_foretoldAs _ _ _ e13) rfl ?_
        obtain rfl := Option.some.inj h
        exact x_iret dX5_foretell_70 rfl rfl (Nat.le_of_ble_eq_true rfl) rfl
      · refine x_if_ne (tgt := 71) (pc' := 39) dX5_foretell_36 (by decide) rfl (fun _ => ?_) (fun hn => absurd hn g7)
        refine x_aload_n (pc' := 72) dX5_foretell_71 rfl rfl ?_
        refine x_getr (pc' := 75) (t := 6) dX5_foretell_72 f_X5_29 (by decide) rfl rfl rfl rfl ?_
        refine x_iload (pc' := 77) dX5_foretell_75 rfl rfl ?_
        refine x_iload (pc' := 79) dX5_foretell_77 rfl rfl ?_
        refine xg_bI h (fun w16 hi16 hl16 r16 e15 h => ?_)
        refine x_callV (pc' := 82) (S := []) (As := [.int v4, .int v5]) (b' := (2, 0, 0)) dX5_foretell_79 l_X5_33 m_X8_readRefusal rfl rfl (show 6 < 122 by decide) rfl (Nat.le_of_ble_eq_true rfl) (Nat.le_of_ble_eq_true rfl) (Nat.le_of_ble_eq_true rfl) (Nat.le_of_ble_eq_true rfl) (r_X8_readRefusal _ _ _ _ _ _ e15) rfl ?_
        refine x_istore (pc' := 84) (L' := [some (.ref 14), some (.int v1), some (.int v2), some (.int v3), some (.int v4), some (.int v5), some (.int w16)]) dX5_foretell_82 (Nat.le_of_ble_eq_true rfl) rfl rfl ?_
        refine x_iload (pc' := 86) dX5_foretell_84 rfl rfl ?_
        refine xg_ite h (fun g17 h => ?_) (fun g17 h => ?_)
        · refine x_if_eq (tgt := 95) (pc' := 89) dX5_foretell_86 (by decide) rfl (fun _ => ?_) (fun hn => absurd g17 hn)
          refine x_aload_n (pc' := 96) dX5_foretell_95 rfl rfl ?_
          refine x_getr (pc' := 99) (t := 6) dX5_foretell_96 f_X5_29 (by decide) rfl rfl rfl rfl ?_
          refine x_iload (pc' := 101) dX5_foretell_99 rfl rfl ?_
          refine xg_bI h (fun w19 hi19 hl19 r19 e18 h => ?_)
          refine x_callV (pc' := 104) (S := []) (As := [.int v4]) (b' := (0, 0, 0)) dX5_foretell_101 l_X5_136 m_X8_readsAnything rfl rfl (show 6 < 122 by decide) rfl (Nat.le_of_ble_eq_true rfl) (Nat.le_of_ble_eq_true rfl) (Nat.le_of_ble_eq_true rfl) (Nat.le_of_ble_eq_true rfl) (r_X8_readsAnything _ _ _ _ _ e18) rfl ?_
          refine xg_ite h (fun g20 h => ?_) (fun g20 h => ?_)
          · refine x_if_eq (tgt := 109) (pc' := 107) dX5_foretell_104 (by decide) rfl (fun _ => ?_) (fun hn => absurd g20 hn)
            refine x_iload_n (pc' := 110) dX5_foretell_109 rfl rfl ?_
            refine x_iconst (pc' := 111) (x := 4) dX5_foretell_110 (by decide) rfl ?_
            refine xg_ite h (fun g21 h => ?_) (fun g21 h => ?_)
            · refine x_icmp_ne (tgt := 145) (pc' := 114) dX5_foretell_111 (by decide) rfl (fun hn => absurd g21 hn) (fun _ => ?_)
              refine x_aload_n (pc' := 115) dX5_foretell_114 rfl rfl ?_
              refine x_iload_n (pc' := 116) dX5_foretell_115 rfl rfl ?_
              refine x_iload_n (pc' := 117) dX5_foretell_116 rfl rfl ?_
              refine x_aload_n (pc' := 118) dX5_foretell_117 rfl rfl ?_
              refine x_getr (pc' := 121) (t := 6) dX5_foretell_118 f_X5_29 (by decide) rfl rfl rfl rfl ?_
              refine x_iload_n (pc' := 122) dX5_foretell_121 rfl rfl ?_
              refine xg_bI h (fun w23 hi23 hl23 r23 e22 h => ?_)
              refine x_callV (pc' := 125) (S := [.int v3, .int v2, .ref 14]) (As := [.int v2]) (b' := (0, 0, 0)) dX5_foretell_122 l_X5_140 m_X8_kindRead rfl rfl (show 6 < 122 by decide) rfl (Nat.le_of_ble_eq_true rfl) (Nat.le_of_ble_eq_true rfl) (Nat.le_of_ble_eq_true rfl) (Nat.le_of_ble_eq_true rfl) (r_X8_kindRead _ _ _ _ _ e22) rfl ?_
              refine x_iload (pc' := 127) dX5_foretell_125 rfl rfl ?_
              refine x_iload (pc' := 129) dX5_foretell_127 rfl rfl ?_
              refine x_aload_n (pc' := 130) dX5_foretell_129 rfl rfl ?_
              refine x_getr (pc' := 133) (t := 6) dX5_foretell_130 f_X5_29 (by decide) rfl rfl rfl rfl ?_
              refine x_iload (pc' := 135) dX5_foretell_133 rfl rfl ?_
              refine xg_bI h (fun w25 hi25 hl25 r25 e24 h => ?_)
              refine x_callV (pc' := 138) (S := [.int v5, .int v4, .int w23, .int v3, .int v2, .ref 14]) (As := [.int v4]) (b' := (0, 0, 0)) dX5_foretell_135 l_X5_140 m_X8_kindRead rfl rfl (show 6 < 122 by decide) rfl (Nat.le_of_ble_eq_true rfl) (Nat.le_of_ble_eq_true rfl) (Nat.le_of_ble_eq_true rfl) (Nat.le_of_ble_eq_true rfl) (r_X8_kindRead _ _ _ _ _ e24) rfl ?_
              refine xg_bI h (fun w27 hi27 hl27 r27 e26 h => ?_)
              refine x_callV (pc' := 141) (S := []) (As := [.int v2, .int v3, .int w23, .int v4, .int v5, .int w25]) (b' := (3, 0, 0)) dX5_foretell_138 l_X5_88 m_X5_swapRefusal rfl rfl (show 14 < 122 by decide) rfl (Nat.le_of_ble_eq_true rfl) (Nat.le_of_ble_eq_true rfl) (Nat.le_of_ble_eq_true rfl) (Nat.le_of_ble_eq_true rfl) (r_X5_swapRefusal _ _ _ _ _ _ _ _ _ _ e26) rfl ?_
              refine xg_bP h (fun w29 e28 h => ?_)
              refine x_callS (pc' := 144) (S := []) (As := [.int w27]) (b' := (0, 0, 0)) dX5_foretell_141 l_X5_143 m_X5_foretoldAs rfl rfl (Nat.le_of_ble_eq_true rfl) (Nat.le_of_ble_eq_true rfl) (Nat.le_of_ble_eq_true rfl) (Nat.le_of_ble_eq_true rfl) (r_X5_foretoldAs _ _ _ e28) rfl ?_
              obtain rfl := Option.some.inj h
              exact x_iret dX5_foretell_144 rfl rfl (Nat.le_of_ble_eq_true rfl) rfl
            · refine x_icmp_ne (tgt := 145) (pc' := 114) dX5_foretell_111 (by decide) rfl (fun _ => ?_) (fun hn => absurd hn g21)
              refine x_aload_n (pc' := 146) dX5_foretell_145 rfl rfl ?_
              refine x_iload_n (pc' := 147) dX5_foretell_146 rfl rfl ?_
              refine x_iload (pc' := 149) dX5_foretell_147 rfl rfl ?_
              refine x_iload (pc' := 151) dX5_foretell_149 rfl rfl ?_
              refine xg_bI h (fun w31 hi31 hl31 r31 e30 h => ?_)
              refine x_callV (pc' := 154) (S := []) (As := [.int v2, .int v4, .int v5]) (b' := (3, 0, 0)) dX5_foretell_151 l_X5_146 m_X5_reckonRefusal rfl rfl (show 14 < 122 by decide) rfl (Nat.le_of_ble_eq_true rfl) (Nat.le_of_ble_eq_true rfl) (Nat.le_of_ble_eq_true rfl) (Nat.le_of_ble_eq_true rfl) (r_X5_reckonRefusal _ _ _ _ _ _ _ e30) rfl ?_
              refine xg_bP h (fun w33 e32 h => ?_)
              refine x_callS (pc' := 157) (S := []) (As := [.int w31]) (b' := (0, 0, 0)) dX5_foretell_154 l_X5_143 m_X5_foretoldAs rfl rfl (Nat.le_of_ble_eq_true rfl) (Nat.le_of_ble_eq_true rfl) (Nat.le_of_ble_eq_true rfl) (Nat.le_of_ble_eq_true rfl) (r_X5_foretoldAs _ _ _ e32) rfl ?_
              obtain rfl := Option.some.inj h
              exact x_iret dX5_foretell_157 rfl rfl (Nat.le_of_ble_eq_true rfl) rfl
          · refine x_if_eq (tgt := 109) (pc' := 107) dX5_foretell_104 (by decide) rfl (fun hn => absurd hn g20) (fun _ => ?_)
            refine x_iconst (pc' := 108) (x := 5) dX5_foretell_107 (by decide) rfl ?_
            obtain rfl := Option.some.inj h
            exact x_iret dX5_foretell_108 rfl rfl (Nat.le_of_ble_eq_true rfl) rfl
        · refine x_if_eq (tgt := 95) (pc' := 89) dX5_foretell_86 (by decide) rfl (fun hn => absurd hn g17) (fun _ => ?_)
          refine x_bipush (pc' := 91) (x := (-4)) dX5_foretell_89 (by decide) rfl ?_
          refine x_iload (pc' := 93) dX5_foretell_91 rfl rfl ?_
          refine x_isub (pc' := 94) dX5_foretell_93 rfl ?_
          obtain rfl := Option.some.inj h
          exact x_iret dX5_foretell_94 rfl rfl (Nat.le_of_ble_eq_true rfl) rfl
    · refine x_if_eq (tgt := 35) (pc' := 33) dX5_foretell_30 (by decide) rfl (fun hn => absurd hn g6) (fun _ => ?_)
      refine x_iconst (pc' := 34) (x := 5) dX5_foretell_33 (by decide) rfl ?_
      obtain rfl := Option.some.inj h
      exact x_iret dX5_foretell_34 rfl rfl (Nat.le_of_ble_eq_true rfl) rfl
  · refine x_if_eq (tgt := 22) (pc' := 16) dX5_foretell_13 (by decide) rfl (fun hn => absurd hn g3) (fun _ => ?_)
    refine x_bipush (pc' := 18) (x := (-4)) dX5_foretell_16 (by decide) rfl ?_
    refine x_iload (pc' := 20) dX5_foretell_18 rfl rfl ?_
    refine x_isub (pc' := 21) dX5_foretell_20 rfl ?_
    obtain rfl := Option.some.inj h
    exact x_iret dX5_foretell_21 rfl rfl (Nat.le_of_ble_eq_true rfl) rfl
def F_X7_tried_46 (v1 : Int32) (s0 : Int32) : Option (Int32) := xbP (F_X3_handed s0 (8 : Int32) v1) (fun w2 => some w2)
set_option maxRecDepth 20000 in
set_option maxHeartbeats 2000000 in
theorem r_X7_tried_46 (v1 : Int32) (s0 : Int32) (d0 : Option Value) (H : xHp) (o : Int32) (h : F_X7_tried_46 v1 s0 = some o) : xR (RX7, cX7_tried, 2, false, 1) (1, 0, 0) z 0 0 46 [d0, some (.int v1)] [.int s0] H (some (.int o), H) := by
  refine x_bipush (pc' := 48) (x := 8) dX7_tried_46 (by decide) rfl ?_
  refine x_iload_n (pc' := 49) dX7_tried_48 rfl rfl ?_
  refine xg_bP h (fun w2 e1 h => ?_)
  refine x_callS (pc' := 52) (S := []) (As := [.int s0, .int (8 : Int32), .int v1]) (b' := (0, 0, 0)) dX7_tried_49 l_X7_28 m_X3_handed rfl rfl (Nat.le_of_ble_eq_true rfl) (Nat.le_of_ble_eq_true rfl) (Nat.le_of_ble_eq_true rfl) (Nat.le_of_ble_eq_true rfl) (r_X3_handed _ _ _ _ _ e1) rfl ?_
  obtain rfl := Option.some.inj h
  exact x_iret dX7_tried_52 rfl rfl (Nat.le_of_ble_eq_true rfl) rfl
def F_X7_tried (v0 : Int32) (v1 : Int32) : Option (Int32) := if (9 : Int32) ≤ v0 then if (17 : Int32) ≤ v0 then if v0 = (25 : Int32) then F_X7_tried_46 v1 (9 : Int32) else F_X7_tried_46 v1 (v0 - (17 : Int32)) else xbP (F_X3_handed (v0 - (9 : Int32)) (v0 - (9 : Int32)) v1) (fun w5 => some w5) else xbP (F_X3_taken v1 v0) (fun w7 => some w7)
set_option maxRecDepth 20000 in
set_option maxHeartbeats 2000000 in
theorem r_X7_tried (v0 : Int32) (v1 : Int32) (H : xHp) (o : Int32) (h : F_X7_tried v0 v1 = some o) : xM yX7_tried cX7_tried 2 1 (1, 0, 0) z [.int v0, .int v1] H (some (.int o), H) := by
  refine x_meth2 (C := RX7) (ini := false) (L := [some (.int v0), some (.int v1)]) rfl (by decide) (fun h9 => by cases h9) (by decide) (Nat.le_of_ble_eq_true rfl) rfl ?_
  refine x_iload_n (pc' := 1) dX7_tried_0 rfl rfl ?_
  refine x_bipush (pc' := 3) (x := 9) dX7_tried_1 (by decide) rfl ?_
  refine xg_ite h (fun g1 h => ?_) (fun g1 h => ?_)
  · refine x_icmp_ge (tgt := 12) (pc' := 6) dX7_tried_3 (by decide) rfl (fun _ => ?_) (fun hn => absurd g1 hn)
    refine x_iload_n (pc' := 13) dX7_tried_12 rfl rfl ?_
    refine x_bipush (pc' := 15) (x := 17) dX7_tried_13 (by decide) rfl ?_
    refine xg_ite h (fun g2 h => ?_) (fun g2 h => ?_)
    · refine x_icmp_ge (tgt := 31) (pc' := 18) dX7_tried_15 (by decide) rfl (fun _ => ?_) (fun hn => absurd g2 hn)
      refine x_iload_n (pc' := 32) dX7_tried_31 rfl rfl ?_
      refine x_bipush (pc' := 34) (x := 25) dX7_tried_32 (by decide) rfl ?_
      refine xg_ite h (fun g3 h => ?_) (fun g3 h => ?_)
      · refine x_icmp_ne (tgt := 42) (pc' := 37) dX7_tried_34 (by decide) rfl (fun hn => absurd g3 hn) (fun _ => ?_)
        refine x_bipush (pc' := 39) (x := 9) dX7_tried_37 (by decide) rfl ?_
        refine x_goto (tgt := 46) dX7_tried_39 (by decide) ?_
        exact r_X7_tried_46 _ _ _ _ _ h
      · refine x_icmp_ne (tgt := 42) (pc' := 37) dX7_tried_34 (by decide) rfl (fun _ => ?_) (fun hn => absurd hn g3)
        refine x_iload_n (pc' := 43) dX7_tried_42 rfl rfl ?_
        refine x_bipush (pc' := 45) (x := 17) dX7_tried_43 (by decide) rfl ?_
        refine x_isub (pc' := 46) dX7_tried_45 rfl ?_
        exact r_X7_tried_46 _ _ _ _ _ h
    · refine x_icmp_ge (tgt := 31) (pc' := 18) dX7_tried_15 (by decide) rfl (fun hn => absurd hn g2) (fun _ => ?_)
      refine x_iload_n (pc' := 19) dX7_tried_18 rfl rfl ?_
      refine x_bipush (pc' := 21) (x := 9) dX7_tried_19 (by decide) rfl ?_
      refine x_isub (pc' := 22) dX7_tried_21 rfl ?_
      refine x_iload_n (pc' := 23) dX7_tried_22 rfl rfl ?_
      refine x_bipush (pc' := 25) (x := 9) dX7_tried_23 (by decide) rfl ?_
      refine x_isub (pc' := 26) dX7_tried_25 rfl ?_
      refine x_iload_n (pc' := 27) dX7_tried_26 rfl rfl ?_
      refine xg_bP h (fun w5 e4 h => ?_)
      refine x_callS (pc' := 30) (S := []) (As := [.int (v0 - (9 : Int32)), .int (v0 - (9 : Int32)), .int v1]) (b' := (0, 0, 0)) dX7_tried_27 l_X7_28 m_X3_handed rfl rfl (Nat.le_of_ble_eq_true rfl) (Nat.le_of_ble_eq_true rfl) (Nat.le_of_ble_eq_true rfl) (Nat.le_of_ble_eq_true rfl) (r_X3_handed _ _ _ _ _ e4) rfl ?_
      obtain rfl := Option.some.inj h
      exact x_iret dX7_tried_30 rfl rfl (Nat.le_of_ble_eq_true rfl) rfl
  · refine x_icmp_ge (tgt := 12) (pc' := 6) dX7_tried_3 (by decide) rfl (fun hn => absurd hn g1) (fun _ => ?_)
    refine x_iload_n (pc' := 7) dX7_tried_6 rfl rfl ?_
    refine x_iload_n (pc' := 8) dX7_tried_7 rfl rfl ?_
    refine xg_bP h (fun w7 e6 h => ?_)
    refine x_callS (pc' := 11) (S := []) (As := [.int v1, .int v0]) (b' := (0, 0, 0)) dX7_tried_8 l_X7_23 m_X3_taken rfl rfl (Nat.le_of_ble_eq_true rfl) (Nat.le_of_ble_eq_true rfl) (Nat.le_of_ble_eq_true rfl) (Nat.le_of_ble_eq_true rfl) (r_X3_taken _ _ _ _ e6) rfl ?_
    obtain rfl := Option.some.inj h
    exact x_iret dX7_tried_11 rfl rfl (Nat.le_of_ble_eq_true rfl) rfl
def F_X7_lose (hi : Nat → Nat → Int32) (hl : Nat → Nat → Int64) (r : xRr) : Option (Int32 × xSt) := some ((hi 83 2), (xu (xu hi 83 2 (0 : Int32)) 83 1 (8191 : Int32)), hl, r)
set_option maxRecDepth 20000 in
set_option maxHeartbeats 2000000 in
theorem r_X7_lose (hi : Nat → Nat → Int32) (hl : Nat → Nat → Int64) (r : xRr) (o : Int32 × xSt) (h : F_X7_lose hi hl r = some o) : xM yX7_lose cX7_lose 2 1 (0, 0, 0) z [.ref 83] (xhp hi hl r) (xoI o) := by
  refine x_meth2 (C := RX7) (ini := false) (L := [some (.ref 83), none]) rfl (by decide) (fun h9 => by cases h9) (by decide) (Nat.le_of_ble_eq_true rfl) rfl ?_
  refine x_aload_n (pc' := 1) dX7_lose_0 rfl rfl ?_
  refine x_geti (pc' := 4) dX7_lose_1 f_X7_35 (by decide) rfl rfl rfl ?_
  refine x_istore_n (pc' := 5) (L' := [some (.ref 83), some (.int (hi 83 2))]) dX7_lose_4 (Nat.le_of_ble_eq_true rfl) rfl rfl ?_
  refine x_aload_n (pc' := 6) dX7_lose_5 rfl rfl ?_
  refine x_iconst (pc' := 7) (x := 0) dX7_lose_6 (by decide) rfl ?_
  refine x_puti (pc' := 10) dX7_lose_7 f_X7_35 (Or.inl rfl) (by decide) rfl rfl rfl ?_
  refine x_aload_n (pc' := 11) dX7_lose_10 rfl rfl ?_
  refine x_sipush (pc' := 14) (x := 8191) dX7_lose_11 (by decide) rfl ?_
  refine x_puti (pc' := 17) dX7_lose_14 f_X7_15 (Or.inl rfl) (by decide) rfl rfl rfl ?_
  refine x_iload_n (pc' := 18) dX7_lose_17 rfl rfl ?_
  obtain rfl := Option.some.inj h
  exact x_iret dX7_lose_18 rfl rfl (Nat.le_of_ble_eq_true rfl) rfl
def F_X7_kindsBy (v1 : Int32) (v2 : Int32) (hi : Nat → Nat → Int32) (hl : Nat → Nat → Int64) (r : xRr) : Option (Int32 × xSt) := if v2 = (1 : Int32) then some ((2048 : Int32), hi, hl, r) else if v2 = (2 : Int32) then some ((4096 : Int32), hi, hl, r) else if v2 = 0 then if xok v1 26 = true then some ((hi 84 (Int32.toNatClampNeg v1)), hi, hl, r) else none else if xok v1 26 = true then some (((2047 : Int32) &&& ((hi 84 (Int32.toNatClampNeg v1)) ^^^ ((-1) : Int32))), hi, hl, r) else none
set_option maxRecDepth 20000 in
set_option maxHeartbeats 2000000 in
theorem r_X7_kindsBy (v1 : Int32) (v2 : Int32) (hi : Nat → Nat → Int32) (hl : Nat → Nat → Int64) (r : xRr) (o : Int32 × xSt) (h : F_X7_kindsBy v1 v2 hi hl r = some o) : xM yX7_kindsBy cX7_kindsBy 3 1 (0, 0, 0) z [.ref 83, .int v1, .int v2] (xhp hi hl r) (xoI o) := by
  refine x_meth2 (C := RX7) (ini := false) (L := [some (.ref 83), some (.int v1), some (.int v2)]) rfl (by decide) (fun h9 => by cases h9) (by decide) (Nat.le_of_ble_eq_true rfl) rfl ?_
  refine x_iload_n (pc' := 1) dX7_kindsBy_0 rfl rfl ?_
  refine x_iconst (pc' := 2) (x := 1) dX7_kindsBy_1 (by decide) rfl ?_
  refine xg_ite h (fun g1 h => ?_) (fun g1 h => ?_)
  · refine x_icmp_ne (tgt := 9) (pc' := 5) dX7_kindsBy_2 (by decide) rfl (fun hn => absurd g1 hn) (fun _ => ?_)
    refine x_sipush (pc' := 8) (x := 2048) dX7_kindsBy_5 (by decide) rfl ?_
    obtain rfl := Option.some.inj h
    exact x_iret dX7_kindsBy_8 rfl rfl (Nat.le_of_ble_eq_true rfl) rfl
  · refine x_icmp_ne (tgt := 9) (pc' := 5) dX7_kindsBy_2 (by decide) rfl (fun _ => ?_) (fun hn => absurd hn g1)
    refine x_iload_n (pc' := 10) dX7_kindsBy_9 rfl rfl ?_
    refine x_iconst (pc' := 11) (x := 2) dX7_kindsBy_10 (by decide) rfl ?_
    refine xg_ite h (fun g2 h => ?_) (fun g2 h => ?_)
    · refine x_icmp_ne (tgt := 18) (pc' := 14) dX7_kindsBy_11 (by decide) rfl (fun hn => absurd g2 hn) (fun _ => ?_)
      refine x_sipush (pc' := 17) (x := 4096) dX7_kindsBy_14 (by decide) rfl ?_
      obtain rfl := Option.some.inj h
      exact x_iret dX7_kindsBy_17 rfl rfl (Nat.le_of_ble_eq_true rfl) rfl
    · refine x_icmp_ne (tgt := 18) (pc' := 14) dX7_kindsBy_11 (by decide) rfl (fun _ => ?_) (fun hn => absurd hn g2)
      refine x_iload_n (pc' := 19) dX7_kindsBy_18 rfl rfl ?_
      refine xg_ite h (fun g3 h => ?_) (fun g3 h => ?_)
      · refine x_if_ne (tgt := 31) (pc' := 22) dX7_kindsBy_19 (by decide) rfl (fun hn => absurd g3 hn) (fun _ => ?_)
        refine x_aload_n (pc' := 23) dX7_kindsBy_22 rfl rfl ?_
        refine x_getr (pc' := 26) (t := 84) dX7_kindsBy_23 f_X7_11 (by decide) rfl rfl rfl rfl ?_
        refine x_iload_n (pc' := 27) dX7_kindsBy_26 rfl rfl ?_
        refine xg_if h (fun g4 h => ?_)
        refine x_iald (pc' := 28) dX7_kindsBy_27 (by decide) rfl (xok_in g4) rfl ?_
        refine x_goto (tgt := 43) dX7_kindsBy_28 (by decide) ?_
        obtain rfl := Option.some.inj h
        exact x_iret dX7_kindsBy_43 rfl rfl (Nat.le_of_ble_eq_true rfl) rfl
      · refine x_if_ne (tgt := 31) (pc' := 22) dX7_kindsBy_19 (by decide) rfl (fun _ => ?_) (fun hn => absurd hn g3)
        refine x_sipush (pc' := 34) (x := 2047) dX7_kindsBy_31 (by decide) rfl ?_
        refine x_aload_n (pc' := 35) dX7_kindsBy_34 rfl rfl ?_
        refine x_getr (pc' := 38) (t := 84) dX7_kindsBy_35 f_X7_11 (by decide) rfl rfl rfl rfl ?_
        refine x_iload_n (pc' := 39) dX7_kindsBy_38 rfl rfl ?_
        refine xg_if h (fun g5 h => ?_)
        refine x_iald (pc' := 40) dX7_kindsBy_39 (by decide) rfl (xok_in g5) rfl ?_
        refine x_iconst (pc' := 41) (x := (-1)) dX7_kindsBy_40 (by decide) rfl ?_
        refine x_ixor (pc' := 42) dX7_kindsBy_41 rfl ?_
        refine x_iand (pc' := 43) dX7_kindsBy_42 rfl ?_
        obtain rfl := Option.some.inj h
        exact x_iret dX7_kindsBy_43 rfl rfl (Nat.le_of_ble_eq_true rfl) rfl
def F_X7_note (v1 : Int32) (v2 : Int32) (hi : Nat → Nat → Int32) (hl : Nat → Nat → Int64) (r : xRr) : Option (Int32 × xSt) := xbI (F_X7_kindsBy v1 v2 hi hl r) (fun w2 hi2 hl2 r2 => some (((xu (xu hi2 83 1 ((hi 83 1) &&& w2)) 83 2 (((xu hi2 83 1 ((hi 83 1) &&& w2)) 83 2) + (1 : Int32))) 83 2), (xu (xu hi2 83 1 ((hi 83 1) &&& w2)) 83 2 (((xu hi2 83 1 ((hi 83 1) &&& w2)) 83 2) + (1 : Int32))), hl2, r2))
set_option maxRecDepth 20000 in
set_option maxHeartbeats 2000000 in
theorem r_X7_note (v1 : Int32) (v2 : Int32) (hi : Nat → Nat → Int32) (hl : Nat → Nat → Int64) (r : xRr) (o : Int32 × xSt) (h : F_X7_note v1 v2 hi hl r = some o) : xM yX7_note cX7_note 3 1 (1, 0, 0) z [.ref 83, .int v1, .int v2] (xhp hi hl r) (xoI o) := by
  refine x_meth2 (C := RX7) (ini := false) (L := [some (.ref 83), some (.int v1), some (.int v2)]) rfl (by decide) (fun h9 => by cases h9) (by decide) (Nat.le_of_ble_eq_true rfl) rfl ?_
  refine x_aload_n (pc' := 1) dX7_note_0 rfl rfl ?_
  refine x_dup (pc' := 2) dX7_note_1 rfl rfl ?_
  refine x_geti (pc' := 5) dX7_note_2 f_X7_15 (by decide) rfl rfl rfl ?_
  refine x_aload_n (pc' := 6) dX7_note_5 rfl rfl ?_
  refine x_iload_n (pc' := 7) dX7_note_6 rfl rfl ?_
  refine x_iload_n (pc' := 8) dX7_note_7 rfl rfl ?_
  refine xg_bI h (fun w2 hi2 hl2 r2 e1 h => ?_)
  refine x_callV (pc' := 11) (S := [.int (hi 83 1), .ref 83]) (As := [.int v1, .int v2]) (b' := (0, 0, 0)) dX7_note_8 l_X7_32 m_X7_kindsBy rfl rfl (show 83 < 122 by decide) rfl (Nat.le_of_ble_eq_true rfl) (Nat.le_of_ble_eq_true rfl) (Nat.le_of_ble_eq_true rfl) (Nat.le_of_ble_eq_true rfl) (r_X7_kindsBy _ _ _ _ _ _ e1) rfl ?_
  refine x_iand (pc' := 12) dX7_note_11 rfl ?_
  refine x_puti (pc' := 15) dX7_note_12 f_X7_15 (Or.inl rfl) (by decide) rfl rfl rfl ?_
  refine x_aload_n (pc' := 16) dX7_note_15 rfl rfl ?_
  refine x_dup (pc' := 17) dX7_note_16 rfl rfl ?_
  refine x_geti (pc' := 20) dX7_note_17 f_X7_35 (by decide) rfl rfl rfl ?_
  refine x_iconst (pc' := 21) (x := 1) dX7_note_20 (by decide) rfl ?_
  refine x_iadd (pc' := 22) dX7_note_21 rfl ?_
  refine x_puti (pc' := 25) dX7_note_22 f_X7_35 (Or.inl rfl) (by decide) rfl rfl rfl ?_
  refine x_aload_n (pc' := 26) dX7_note_25 rfl rfl ?_
  refine x_geti (pc' := 29) dX7_note_26 f_X7_35 (by decide) rfl rfl rfl ?_
  obtain rfl := Option.some.inj h
  exact x_iret dX7_note_29 rfl rfl (Nat.le_of_ble_eq_true rfl) rfl
def F_J6_bitCount_0f7a4 (v0 : Int32) : Option (Int32) := some ((((((((v0 - (((Int32.toUInt32 v0) >>> ((Int32.toUInt32 (1 : Int32)) &&& Int32.toUInt32 31)).toInt32 &&& (1431655765 : Int32))) &&& (858993459 : Int32)) + (((Int32.toUInt32 (v0 - (((Int32.toUInt32 v0) >>> ((Int32.toUInt32 (1 : Int32)) &&& Int32.toUInt32 31)).toInt32 &&& (1431655765 : Int32)))) >>> ((Int32.toUInt32 (2 : Int32)) &&& Int32.toUInt32 31)).toInt32 &&& (858993459 : Int32))) + ((Int32.toUInt32 (((v0 - (((Int32.toUInt32 v0) >>> ((Int32.toUInt32 (1 : Int32)) &&& Int32.toUInt32 31)).toInt32 &&& (1431655765 : Int32))) &&& (858993459 : Int32)) + (((Int32.toUInt32 (v0 - (((Int32.toUInt32 v0) >>> ((Int32.toUInt32 (1 : Int32)) &&& Int32.toUInt32 31)).toInt32 &&& (1431655765 : Int32)))) >>> ((Int32.toUInt32 (2 : Int32)) &&& Int32.toUInt32 31)).toInt32 &&& (858993459 : Int32)))) >>> ((Int32.toUInt32 (4 : Int32)) &&& Int32.toUInt32 31)).toInt32) &&& (252645135 : Int32)) + ((Int32.toUInt32 (((((v0 - (((Int32.toUInt32 v0) >>> ((Int32.toUInt32 (1 : Int32)) &&& Int32.toUInt32 31)).toInt32 &&& (1431655765 : Int32))) &&& (858993459 : Int32)) + (((Int32.toUInt32 (v0 - (((Int32.toUInt32 v0) >>> ((Int32.toUInt32 (1 : Int32)) &&& Int32.toUInt32 31)).toInt32 &&& (1431655765 : Int32)))) >>> ((Int32.toUInt32 (2 : Int32)) &&& Int32.toUInt32 31)).toInt32 &&& (858993459 : Int32))) + ((Int32.toUInt32 (((v0 - (((Int32.toUInt32 v0) >>> ((Int32.toUInt32 (1 : Int32)) &&& Int32.toUInt32 31)).toInt32 &&& (1431655765 : Int32))) &&& (858993459 : Int32)) + (((Int32.toUInt32 (v0 - (((Int32.toUInt32 v0) >>> ((Int32.toUInt32 (1 : Int32)) &&& Int32.toUInt32 31)).toInt32 &&& (1431655765 : Int32)))) >>> ((Int32.toUInt32 (2 : Int32)) &&& Int32.toUInt32 31)).toInt32 &&& (858993459 : Int32)))) >>> ((Int32.toUInt32 (4 : Int32)) &&& Int32.toUInt32 31)).toInt32) &&& (252645135 : Int32))) >>> ((Int32.toUInt32 (8 : Int32)) &&& Int32.toUInt32 31)).toInt32) + ((Int32.toUInt32 ((((((v0 - (((Int32.toUInt32 v0) >>> ((Int32.toUInt32 (1 : Int32)) &&& Int32.toUInt32 31)).toInt32 &&& (1431655765 : Int32))) &&& (858993459 : Int32)) + (((Int32.toUInt32 (v0 - (((Int32.toUInt32 v0) >>> ((Int32.toUInt32 (1 : Int32)) &&& Int32.toUInt32 31)).toInt32 &&& (1431655765 : Int32)))) >>> ((Int32.toUInt32 (2 : Int32)) &&& Int32.toUInt32 31)).toInt32 &&& (858993459 : Int32))) + ((Int32.toUInt32 (((v0 - (((Int32.toUInt32 v0) >>> ((Int32.toUInt32 (1 : Int32)) &&& Int32.toUInt32 31)).toInt32 &&& (1431655765 : Int32))) &&& (858993459 : Int32)) + (((Int32.toUInt32 (v0 - (((Int32.toUInt32 v0) >>> ((Int32.toUInt32 (1 : Int32)) &&& Int32.toUInt32 31)).toInt32 &&& (1431655765 : Int32)))) >>> ((Int32.toUInt32 (2 : Int32)) &&& Int32.toUInt32 31)).toInt32 &&& (858993459 : Int32)))) >>> ((Int32.toUInt32 (4 : Int32)) &&& Int32.toUInt32 31)).toInt32) &&& (252645135 : Int32)) + ((Int32.toUInt32 (((((v0 - (((Int32.toUInt32 v0) >>> ((Int32.toUInt32 (1 : Int32)) &&& Int32.toUInt32 31)).toInt32 &&& (1431655765 : Int32))) &&& (858993459 : Int32)) + (((Int32.toUInt32 (v0 - (((Int32.toUInt32 v0) >>> ((Int32.toUInt32 (1 : Int32)) &&& Int32.toUInt32 31)).toInt32 &&& (1431655765 : Int32)))) >>> ((Int32.toUInt32 (2 : Int32)) &&& Int32.toUInt32 31)).toInt32 &&& (858993459 : Int32))) + ((Int32.toUInt32 (((v0 - (((Int32.toUInt32 v0) >>> ((Int32.toUInt32 (1 : Int32)) &&& Int32.toUInt32 31)).toInt32 &&& (1431655765 : Int32))) &&& (858993459 : Int32)) + (((Int32.toUInt32 (v0 - (((Int32.toUInt32 v0) >>> ((Int32.toUInt32 (1 : Int32)) &&& Int32.toUInt32 31)).toInt32 &&& (1431655765 : Int32)))) >>> ((Int32.toUInt32 (2 : Int32)) &&& Int32.toUInt32 31)).toInt32 &&& (858993459 : Int32)))) >>> ((Int32.toUInt32 (4 : Int32)) &&& Int32.toUInt32 31)).toInt32) &&& (252645135 : Int32))) >>> ((Int32.toUInt32 (8 : Int32)) &&& Int32.toUInt32 31)).toInt32)) >>> ((Int32.toUInt32 (16 : Int32)) &&& Int32.toUInt32 31)).toInt32) &&& (63 : Int32))
set_option maxRecDepth 20000 in
set_option maxHeartbeats 2000000 in
theorem r_J6_bitCount_0f7a4 (v0 : Int32) (H : xHp) (o : Int32) (h : F_J6_bitCount_0f7a4 v0 = some o) : xM yJ6_bitCount_0f7a4 cJ6_bitCount_0f7a4 1 1 (0, 0, 0) z [.int v0] H (some (.int o), H) := by
  refine x_meth2 (C := RJ6) (ini := false) (L := [some (.int v0)]) rfl (by decide) (fun h9 => by cases h9) (by decide) (Nat.le_of_ble_eq_true rfl) rfl ?_
  refine x_iload_n (pc' := 1) dJ6_bitCount_0f7a4_0 rfl rfl ?_
  refine x_iload_n (pc' := 2) dJ6_bitCount_0f7a4_1 rfl rfl ?_
  refine x_iconst (pc' := 3) (x := 1) dJ6_bitCount_0f7a4_2 (by decide) rfl ?_
  refine x_iushr (pc' := 4) dJ6_bitCount_0f7a4_3 rfl ?_
  refine x_ldc_w (pc' := 7) dJ6_bitCount_0f7a4_4 k_J6_265 rfl ?_
  refine x_iand (pc' := 8) dJ6_bitCount_0f7a4_7 rfl ?_
  refine x_isub (pc' := 9) dJ6_bitCount_0f7a4_8 rfl ?_
  refine x_istore_n (pc' := 10) (L' := [some (.int (v0 - (((Int32.toUInt32 v0) >>> ((Int32.toUInt32 (1 : Int32)) &&& Int32.toUInt32 31)).toInt32 &&& (1431655765 : Int32))))]) dJ6_bitCount_0f7a4_9 (Nat.le_of_ble_eq_true rfl) rfl rfl ?_
  refine x_iload_n (pc' := 11) dJ6_bitCount_0f7a4_10 rfl rfl ?_
  refine x_ldc_w (pc' := 14) dJ6_bitCount_0f7a4_11 k_J6_266 rfl ?_
  refine x_iand (pc' := 15) dJ6_bitCount_0f7a4_14 rfl ?_
  refine x_iload_n (pc' := 16) dJ6_bitCount_0f7a4_15 rfl rfl ?_
  refine x_iconst (pc' := 17) (x := 2) dJ6_bitCount_0f7a4_16 (by decide) rfl ?_
  refine x_iushr (pc' := 18) dJ6_bitCount_0f7a4_17 rfl ?_
  refine x_ldc_w (pc' := 21) dJ6_bitCount_0f7a4_18 k_J6_266 rfl ?_
  refine x_iand (pc' := 22) dJ6_bitCount_0f7a4_21 rfl ?_
  refine x_iadd (pc' := 23) dJ6_bitCount_0f7a4_22 rfl ?_
  refine x_istore_n (pc' := 24) (L' := [some (.int (((v0 - (((Int32.toUInt32 v0) >>> ((Int32.toUInt32 (1 : Int32)) &&& Int32.toUInt32 31)).toInt32 &&& (1431655765 : Int32))) &&& (858993459 : Int32)) + (((Int32.toUInt32 (v0 - (((Int32.toUInt32 v0) >>> ((Int32.toUInt32 (1 : Int32)) &&& Int32.toUInt32 31)).toInt32 &&& (1431655765 : Int32)))) >>> ((Int32.toUInt32 (2 : Int32)) &&& Int32.toUInt32 31)).toInt32 &&& (858993459 : Int32))))]) dJ6_bitCount_0f7a4_23 (Nat.le_of_ble_eq_true rfl) rfl rfl ?_
  refine x_iload_n (pc' := 25) dJ6_bitCount_0f7a4_24 rfl rfl ?_
  refine x_iload_n (pc' := 26) dJ6_bitCount_0f7a4_25 rfl rfl ?_
  refine x_iconst (pc' := 27) (x := 4) dJ6_bitCount_0f7a4_26 (by decide) rfl ?_
  refine x_iushr (pc' := 28) dJ6_bitCount_0f7a4_27 rfl ?_
  refine x_iadd (pc' := 29) dJ6_bitCount_0f7a4_28 rfl ?_
  refine x_ldc_w (pc' := 32) dJ6_bitCount_0f7a4_29 k_J6_267 rfl ?_
  refine x_iand (pc' := 33) dJ6_bitCount_0f7a4_32 rfl ?_
  refine x_istore_n (pc' := 34) (L' := [some (.int (((((v0 - (((Int32.toUInt32 v0) >>> ((Int32.toUInt32 (1 : Int32)) &&& Int32.toUInt32 31)).toInt32 &&& (1431655765 : Int32))) &&& (858993459 : Int32)) + (((Int32.toUInt32 (v0 - (((Int32.toUInt32 v0) >>> ((Int32.toUInt32 (1 : Int32)) &&& Int32.toUInt32 31)).toInt32 &&& (1431655765 : Int32)))) >>> ((Int32.toUInt32 (2 : Int32)) &&& Int32.toUInt32 31)).toInt32 &&& (858993459 : Int32))) + ((Int32.toUInt32 (((v0 - (((Int32.toUInt32 v0) >>> ((Int32.toUInt32 (1 : Int32)) &&& Int32.toUInt32 31)).toInt32 &&& (1431655765 : Int32))) &&& (858993459 : Int32)) + (((Int32.toUInt32 (v0 - (((Int32.toUInt32 v0) >>> ((Int32.toUInt32 (1 : Int32)) &&& Int32.toUInt32 31)).toInt32 &&& (1431655765 : Int32)))) >>> ((Int32.toUInt32 (2 : Int32)) &&& Int32.toUInt32 31)).toInt32 &&& (858993459 : Int32)))) >>> ((Int32.toUInt32 (4 : Int32)) &&& Int32.toUInt32 31)).toInt32) &&& (252645135 : Int32)))]) dJ6_bitCount_0f7a4_33 (Nat.le_of_ble_eq_true rfl) rfl rfl ?_
  refine x_iload_n (pc' := 35) dJ6_bitCount_0f7a4_34 rfl rfl ?_
  refine x_iload_n (pc' := 36) dJ6_bitCount_0f7a4_35 rfl rfl ?_
  refine x_bipush (pc' := 38) (x := 8) dJ6_bitCount_0f7a4_36 (by decide) rfl ?_
  refine x_iushr (pc' := 39) dJ6_bitCount_0f7a4_38 rfl ?_
  refine x_iadd (pc' := 40) dJ6_bitCount_0f7a4_39 rfl ?_
  refine x_istore_n (pc' := 41) (L' := [some (.int ((((((v0 - (((Int32.toUInt32 v0) >>> ((Int32.toUInt32 (1 : Int32)) &&& Int32.toUInt32 31)).toInt32 &&& (1431655765 : Int32))) &&& (858993459 : Int32)) + (((Int32.toUInt32 (v0 - (((Int32.toUInt32 v0) >>> ((Int32.toUInt32 (1 : Int32)) &&& Int32.toUInt32 31)).toInt32 &&& (1431655765 : Int32)))) >>> ((Int32.toUInt32 (2 : Int32)) &&& Int32.toUInt32 31)).toInt32 &&& (858993459 : Int32))) + ((Int32.toUInt32 (((v0 - (((Int32.toUInt32 v0) >>> ((Int32.toUInt32 (1 : Int32)) &&& Int32.toUInt32 31)).toInt32 &&& (1431655765 : Int32))) &&& (858993459 : Int32)) + (((Int32.toUInt32 (v0 - (((Int32.toUInt32 v0) >>> ((Int32.toUInt32 (1 : Int32)) &&& Int32.toUInt32 31)).toInt32 &&& (1431655765 : Int32)))) >>> ((Int32.toUInt32 (2 : Int32)) &&& Int32.toUInt32 31)).toInt32 &&& (858993459 : Int32)))) >>> ((Int32.toUInt32 (4 : Int32)) &&& Int32.toUInt32 31)).toInt32) &&& (252645135 : Int32)) + ((Int32.toUInt32 (((((v0 - (((Int32.toUInt32 v0) >>> ((Int32.toUInt32 (1 : Int32)) &&& Int32.toUInt32 31)).toInt32 &&& (1431655765 : Int32))) &&& (858993459 : Int32)) + (((Int32.toUInt32 (v0 - (((Int32.toUInt32 v0) >>> ((Int32.toUInt32 (1 : Int32)) &&& Int32.toUInt32 31)).toInt32 &&& (1431655765 : Int32)))) >>> ((Int32.toUInt32 (2 : Int32)) &&& Int32.toUInt32 31)).toInt32 &&& (858993459 : Int32))) + ((Int32.toUInt32 (((v0 - (((Int32.toUInt32 v0) >>> ((Int32.toUInt32 (1 : Int32)) &&& Int32.toUInt32 31)).toInt32 &&& (1431655765 : Int32))) &&& (858993459 : Int32)) + (((Int32.toUInt32 (v0 - (((Int32.toUInt32 v0) >>> ((Int32.toUInt32 (1 : Int32)) &&& Int32.toUInt32 31)).toInt32 &&& (1431655765 : Int32)))) >>> ((Int32.toUInt32 (2 : Int32)) &&& Int32.toUInt32 31)).toInt32 &&& (858993459 : Int32)))) >>> ((Int32.toUInt32 (4 : Int32)) &&& Int32.toUInt32 31)).toInt32) &&& (252645135 : Int32))) >>> ((Int32.toUInt32 (8 : Int32)) &&& Int32.toUInt32 31)).toInt32))]) dJ6_bitCount_0f7a4_40 (Nat.le_of_ble_eq_true rfl) rfl rfl ?_
  refine x_iload_n (pc' := 42) dJ6_bitCount_0f7a4_41 rfl rfl ?_
  refine x_iload_n (pc' := 43) dJ6_bitCount_0f7a4_42 rfl rfl ?_
  refine x_bipush (pc' := 45) (x := 16) dJ6_bitCount_0f7a4_43 (by decide) rfl ?_
  refine x_iushr (pc' := 46) dJ6_bitCount_0f7a4_45 rfl ?_
  refine x_iadd (pc' := 47) dJ6_bitCount_0f7a4_46 rfl ?_
  refine x_istore_n (pc' := 48) (L' := [some (.int (((((((v0 - (((Int32.toUInt32 v0) >>> ((Int32.toUInt32 (1 : Int32)) &&& Int32.toUInt32 31)).toInt32 &&& (1431655765 : Int32))) &&& (858993459 : Int32)) + (((Int32.toUInt32 (v0 - (((Int32.toUInt32 v0) >>> ((Int32.toUInt32 (1 : Int32)) &&& Int32.toUInt32 31)).toInt32 &&& (1431655765 : Int32)))) >>> ((Int32.toUInt32 (2 : Int32)) &&& Int32.toUInt32 31)).toInt32 &&& (858993459 : Int32))) + ((Int32.toUInt32 (((v0 - (((Int32.toUInt32 v0) >>> ((Int32.toUInt32 (1 : Int32)) &&& Int32.toUInt32 31)).toInt32 &&& (1431655765 : Int32))) &&& (858993459 : Int32)) + (((Int32.toUInt32 (v0 - (((Int32.toUInt32 v0) >>> ((Int32.toUInt32 (1 : Int32)) &&& Int32.toUInt32 31)).toInt32 &&& (1431655765 : Int32)))) >>> ((Int32.toUInt32 (2 : Int32)) &&& Int32.toUInt32 31)).toInt32 &&& (858993459 : Int32)))) >>> ((Int32.toUInt32 (4 : Int32)) &&& Int32.toUInt32 31)).toInt32) &&& (252645135 : Int32)) + ((Int32.toUInt32 (((((v0 - (((Int32.toUInt32 v0) >>> ((Int32.toUInt32 (1 : Int32)) &&& Int32.toUInt32 31)).toInt32 &&& (1431655765 : Int32))) &&& (858993459 : Int32)) + (((Int32.toUInt32 (v0 - (((Int32.toUInt32 v0) >>> ((Int32.toUInt32 (1 : Int32)) &&& Int32.toUInt32 31)).toInt32 &&& (1431655765 : Int32)))) >>> ((Int32.toUInt32 (2 : Int32)) &&& Int32.toUInt32 31)).toInt32 &&& (858993459 : Int32))) + ((Int32.toUInt32 (((v0 - (((Int32.toUInt32 v0) >>> ((Int32.toUInt32 (1 : Int32)) &&& Int32.toUInt32 31)).toInt32 &&& (1431655765 : Int32))) &&& (858993459 : Int32)) + (((Int32.toUInt32 (v0 - (((Int32.toUInt32 v0) >>> ((Int32.toUInt32 (1 : Int32)) &&& Int32.toUInt32 31)).toInt32 &&& (1431655765 : Int32)))) >>> ((Int32.toUInt32 (2 : Int32)) &&& Int32.toUInt32 31)).toInt32 &&& (858993459 : Int32)))) >>> ((Int32.toUInt32 (4 : Int32)) &&& Int32.toUInt32 31)).toInt32) &&& (252645135 : Int32))) >>> ((Int32.toUInt32 (8 : Int32)) &&& Int32.toUInt32 31)).toInt32) + ((Int32.toUInt32 ((((((v0 - (((Int32.toUInt32 v0) >>> ((Int32.toUInt32 (1 : Int32)) &&& Int32.toUInt32 31)).toInt32 &&& (1431655765 : Int32))) &&& (858993459 : Int32)) + (((Int32.toUInt32 (v0 - (((Int32.toUInt32 v0) >>> ((Int32.toUInt32 (1 : Int32)) &&& Int32.toUInt32 31)).toInt32 &&& (1431655765 : Int32)))) >>> ((Int32.toUInt32 (2 : Int32)) &&& Int32.toUInt32 31)).toInt32 &&& (858993459 : Int32))) + ((Int32.toUInt32 (((v0 - (((Int32.toUInt32 v0) >>> ((Int32.toUInt32 (1 : Int32)) &&& Int32.toUInt32 31)).toInt32 &&& (1431655765 : Int32))) &&& (858993459 : Int32)) + (((Int32.toUInt32 (v0 - (((Int32.toUInt32 v0) >>> ((Int32.toUInt32 (1 : Int32)) &&& Int32.toUInt32 31)).toInt32 &&& (1431655765 : Int32)))) >>> ((Int32.toUInt32 (2 : Int32)) &&& Int32.toUInt32 31)).toInt32 &&& (858993459 : Int32)))) >>> ((Int32.toUInt32 (4 : Int32)) &&& Int32.toUInt32 31)).toInt32) &&& (252645135 : Int32)) + ((Int32.toUInt32 (((((v0 - (((Int32.toUInt32 v0) >>> ((Int32.toUInt32 (1 : Int32)) &&& Int32.toUInt32 31)).toInt32 &&& (1431655765 : Int32))) &&& (858993459 : Int32)) + (((Int32.toUInt32 (v0 - (((Int32.toUInt32 v0) >>> ((Int32.toUInt32 (1 : Int32)) &&& Int32.toUInt32 31)).toInt32 &&& (1431655765 : Int32)))) >>> ((Int32.toUInt32 (2 : Int32)) &&& Int32.toUInt32 31)).toInt32 &&& (858993459 : Int32))) + ((Int32.toUInt32 (((v0 - (((Int32.toUInt32 v0) >>> ((Int32.toUInt32 (1 : Int32)) &&& Int32.toUInt32 31)).toInt32 &&& (1431655765 : Int32))) &&& (858993459 : Int32)) + (((Int32.toUInt32 (v0 - (((Int32.toUInt32 v0) >>> ((Int32.toUInt32 (1 : Int32)) &&& Int32.toUInt32 31)).toInt32 &&& (1431655765 : Int32)))) >>> ((Int32.toUInt32 (2 : Int32)) &&& Int32.toUInt32 31)).toInt32 &&& (858993459 : Int32)))) >>> ((Int32.toUInt32 (4 : Int32)) &&& Int32.toUInt32 31)).toInt32) &&& (252645135 : Int32))) >>> ((Int32.toUInt32 (8 : Int32)) &&& Int32.toUInt32 31)).toInt32)) >>> ((Int32.toUInt32 (16 : Int32)) &&& Int32.toUInt32 31)).toInt32))]) dJ6_bitCount_0f7a4_47 (Nat.le_of_ble_eq_true rfl) rfl rfl ?_
  refine x_iload_n (pc' := 49) dJ6_bitCount_0f7a4_48 rfl rfl ?_
  refine x_bipush (pc' := 51) (x := 63) dJ6_bitCount_0f7a4_49 (by decide) rfl ?_
  refine x_iand (pc' := 52) dJ6_bitCount_0f7a4_51 rfl ?_
  obtain rfl := Option.some.inj h
  exact x_iret dJ6_bitCount_0f7a4_52 rfl rfl (Nat.le_of_ble_eq_true rfl) rfl
def F_X7_beginning_46 (S : Nat → Int32 → Int32 → (Nat → Nat → Int32) → (Nat → Nat → Int64) → xRr → Option (Int32 × xSt)) (K2 : Nat → Int32 → Int32 → Int32 → (Nat → Nat → Int32) → (Nat → Nat → Int64) → xRr → Option (Int32 × xSt)) (v0 : Nat) (v1 : Int32) (v2 : Int32) (v3 : Int32) (hi : Nat → Nat → Int32) (hl : Nat → Nat → Int64) (r : xRr) : Option (Int32 × xSt) := K2 v0 v1 v2 (v3 + (1)) hi hl r
set_option maxRecDepth 20000 in
set_option maxHeartbeats 2000000 in
theorem r_X7_beginning_46 (S : Nat → Int32 → Int32 → (Nat → Nat → Int32) → (Nat → Nat → Int64) → xRr → Option (Int32 × xSt)) (dS : Nat) (hS : ∀ (v0 : Nat) (v1 v2 : Int32) (hi : Nat → Nat → Int32) (hl : Nat → Nat → Int64) (r : xRr) (o : Int32 × xSt), S v0 v1 v2 hi hl r = some o → xM yX7_sorts cX7_sorts 3 3 (dS, 0, 0) z [.ref v0, .int v1, .int v2] (xhp hi hl r) (xoI o)) (K2 : Nat → Int32 → Int32 → Int32 → (Nat → Nat → Int32) → (Nat → Nat → Int64) → xRr → Option (Int32 × xSt)) (hK2 : ∀ (v0 : Nat) (v1 : Int32) (v2 : Int32) (v3 : Int32) (hi : Nat → Nat → Int32) (hl : Nat → Nat → Int64) (r : xRr) (o : Int32 × xSt), K2 v0 v1 v2 v3 hi hl r = some o → xR (RX7, cX7_beginning, 4, false, 1) (dS + 1, 0, 0) z 0 0 2 [some (.ref v0), some (.int v1), some (.int v2), some (.int v3)] [] (xhp hi hl r) (xoI o)) (v0 : Nat) (v1 : Int32) (v2 : Int32) (v3 : Int32) (hi : Nat → Nat → Int32) (hl : Nat → Nat → Int64) (r : xRr) (o : Int32 × xSt) (h : F_X7_beginning_46 S K2 v0 v1 v2 v3 hi hl r = some o) : xR (RX7, cX7_beginning, 4, false, 1) (dS + 1, 0, 0) z 0 0 46 [some (.ref v0), some (.int v1), some (.int v2), some (.int v3)] [] (xhp hi hl r) (xoI o) := by
  refine x_iinc (pc' := 49) (v := (v3 + (1))) (L' := [some (.ref v0), some (.int v1), some (.int v2), some (.int (v3 + (1)))]) dX7_beginning_46 rfl rfl (Nat.le_of_ble_eq_true rfl) rfl rfl ?_
  refine x_goto (tgt := 2) dX7_beginning_49 (by decide) ?_
  exact hK2 _ _ _ _ _ _ _ _ h
def F_X7_beginning_2 (S : Nat → Int32 → Int32 → (Nat → Nat → Int32) → (Nat → Nat → Int64) → xRr → Option (Int32 × xSt)) : Nat → Nat → Int32 → Int32 → Int32 → (Nat → Nat → Int32) → (Nat → Nat → Int64) → xRr → Option (Int32 × xSt)
  | 0, _, _, _, _, _, _, _ => none
  | n + 1, v0, v1, v2, v3, hi, hl, r => if (25 : Int32) < v3 then some (((-20) : Int32), hi, hl, r) else if xokA v0 0 v3 = true then xbI (S v0 (v1 &&& (hi v0 (Int32.toNatClampNeg v3))) (v2 - (1 : Int32)) hi hl r) (fun w4 hi4 hl4 r4 => if w4 = 0 then F_X7_beginning_46 S (F_X7_beginning_2 S n) v0 v1 v2 v3 hi4 hl4 r4 else xbI (S v0 ((v1 &&& (2047 : Int32)) &&& ((hi4 v0 (Int32.toNatClampNeg v3)) ^^^ ((-1) : Int32))) (v2 - (1 : Int32)) hi4 hl4 r4) (fun w7 hi7 hl7 r7 => if w7 = 0 then F_X7_beginning_46 S (F_X7_beginning_2 S n) v0 v1 v2 v3 hi7 hl7 r7 else some (v3, hi7, hl7, r7))) else none
set_option maxRecDepth 20000 in
set_option maxHeartbeats 2000000 in
theorem r_X7_beginning_2 (S : Nat → Int32 → Int32 → (Nat → Nat → Int32) → (Nat → Nat → Int64) → xRr → Option (Int32 × xSt)) (dS : Nat) (hS : ∀ (v0 : Nat) (v1 v2 : Int32) (hi : Nat → Nat → Int32) (hl : Nat → Nat → Int64) (r : xRr) (o : Int32 × xSt), S v0 v1 v2 hi hl r = some o → xM yX7_sorts cX7_sorts 3 3 (dS, 0, 0) z [.ref v0, .int v1, .int v2] (xhp hi hl r) (xoI o)) : ∀ (n : Nat) (v0 : Nat) (v1 : Int32) (v2 : Int32) (v3 : Int32) (hi : Nat → Nat → Int32) (hl : Nat → Nat → Int64) (r : xRr) (o : Int32 × xSt), F_X7_beginning_2 S n v0 v1 v2 v3 hi hl r = some o → xR (RX7, cX7_beginning, 4, false, 1) (dS + 1, 0, 0) z 0 0 2 [some (.ref v0), some (.int v1), some (.int v2), some (.int v3)] [] (xhp hi hl r) (xoI o) := by
  intro n
  induction n with
  | zero =>
    intro v0 v1 v2 v3 hi hl r o h
    have h : none = some o := h
    cases h
  | succ n ih =>
    intro v0 v1 v2 v3 hi hl r o h
    refine x_iload_n (pc' := 3) dX7_beginning_2 rfl rfl ?_
    refine x_bipush (pc' := 5) (x := 25) dX7_beginning_3 (by decide) rfl ?_
    refine xg_ite h (fun g1 h => ?_) (fun g1 h => ?_)
    · refine x_icmp_gt (tgt := 52) (pc' := 8) dX7_beginning_5 (by decide) rfl (fun _ => ?_) (fun hn => absurd g1 hn)
      refine x_bipush (pc' := 54) (x := (-20)) dX7_beginning_52 (by decide) rfl ?_
      obtain rfl := Option.some.inj h
      exact x_iret dX7_beginning_54 rfl rfl (Nat.le_of_ble_eq_true rfl) rfl
    · refine x_icmp_gt (tgt := 52) (pc' := 8) dX7_beginning_5 (by decide) rfl (fun hn => absurd hn g1) (fun _ => ?_)
      refine x_aload_n (pc' := 9) dX7_beginning_8 rfl rfl ?_
      refine x_iload_n (pc' := 10) dX7_beginning_9 rfl rfl ?_
      refine x_aload_n (pc' := 11) dX7_beginning_10 rfl rfl ?_
      refine x_iload_n (pc' := 12) dX7_beginning_11 rfl rfl ?_
      refine xg_if h (fun g2 h => ?_)
      refine x_iald (pc' := 13) dX7_beginning_12 (xokA_lt g2) (xokA_sh g2) (xokA_in g2) rfl ?_
      refine x_iand (pc' := 14) dX7_beginning_13 rfl ?_
      refine x_iload_n (pc' := 15) dX7_beginning_14 rfl rfl ?_
      refine x_iconst (pc' := 16) (x := 1) dX7_beginning_15 (by decide) rfl ?_
      refine x_isub (pc' := 17) dX7_beginning_16 rfl ?_
      refine xg_bI h (fun w4 hi4 hl4 r4 e3 h => ?_)
      refine x_callS (pc' := 20) (S := []) (As := [.ref v0, .int (v1 &&& (hi v0 (Int32.toNatClampNeg v3))), .int (v2 - (1 : Int32))]) (b' := (dS, 0, 0)) dX7_beginning_17 l_X7_38 m_X7_sorts rfl rfl (Nat.le_of_ble_eq_true rfl) (by simp only; omega) (Nat.le_of_ble_eq_true rfl) (Nat.le_of_ble_eq_true rfl) (hS _ _ _ _ _ _ _ e3) rfl ?_
      refine xg_ite h (fun g5 h => ?_) (fun g5 h => ?_)
      · refine x_if_eq (tgt := 46) (pc' := 23) dX7_beginning_20 (by decide) rfl (fun _ => ?_) (fun hn => absurd g5 hn)
        exact r_X7_beginning_46 S dS hS (F_X7_beginning_2 S n) ih _ _ _ _ _ _ _ _ h
      · refine x_if_eq (tgt := 46) (pc' := 23) dX7_beginning_20 (by decide) rfl (fun hn => absurd hn g5) (fun _ => ?_)
        refine x_aload_n (pc' := 24) dX7_beginning_23 rfl rfl ?_
        refine x_iload_n (pc' := 25) dX7_beginning_24 rfl rfl ?_
        refine x_sipush (pc' := 28) (x := 2047) dX7_beginning_25 (by decide) rfl ?_
        refine x_iand (pc' := 29) dX7_beginning_28 rfl ?_
        refine x_aload_n (pc' := 30) dX7_beginning_29 rfl rfl ?_
        refine x_iload_n (pc' := 31) dX7_beginning_30 rfl rfl ?_
        refine x_iald (pc' := 32) dX7_beginning_31 (xokA_lt g2) (xokA_sh g2) (xokA_in g2) rfl ?_
        refine x_iconst (pc' := 33) (x := (-1)) dX7_beginning_32 (by decide) rfl ?_
        refine x_ixor (pc' := 34) dX7_beginning_33 rfl ?_
        refine x_iand (pc' := 35) dX7_beginning_34 rfl ?_
        refine x_iload_n (pc' := 36) dX7_beginning_35 rfl rfl ?_
        refine x_iconst (pc' := 37) (x := 1) dX7_beginning_36 (by decide) rfl ?_
        refine x_isub (pc' := 38) dX7_beginning_37 rfl ?_
        refine xg_bI h (fun w7 hi7 hl7 r7 e6 h => ?_)
        refine x_callS (pc' := 41) (S := []) (As := [.ref v0, .int ((v1 &&& (2047 : Int32)) &&& ((hi4 v0 (Int32.toNatClampNeg v3)) ^^^ ((-1) : Int32))), .int (v2 - (1 : Int32))]) (b' := (dS, 0, 0)) dX7_beginning_38 l_X7_38 m_X7_sorts rfl rfl (Nat.le_of_ble_eq_true rfl) (by simp only; omega) (Nat.le_of_ble_eq_true rfl) (Nat.le_of_ble_eq_true rfl) (hS _ _ _ _ _ _ _ e6) rfl ?_
        refine xg_ite h (fun g8 h => ?_) (fun g8 h => ?_)
        · refine x_if_eq (tgt := 46) (pc' := 44) dX7_beginning_41 (by decide) rfl (fun _ => ?_) (fun hn => absurd g8 hn)
          exact r_X7_beginning_46 S dS hS (F_X7_beginning_2 S n) ih _ _ _ _ _ _ _ _ h
        · refine x_if_eq (tgt := 46) (pc' := 44) dX7_beginning_41 (by decide) rfl (fun hn => absurd hn g8) (fun _ => ?_)
          refine x_iload_n (pc' := 45) dX7_beginning_44 rfl rfl ?_
          obtain rfl := Option.some.inj h
          exact x_iret dX7_beginning_45 rfl rfl (Nat.le_of_ble_eq_true rfl) rfl
def F_X7_beginning (S : Nat → Int32 → Int32 → (Nat → Nat → Int32) → (Nat → Nat → Int64) → xRr → Option (Int32 × xSt)) (v0 : Nat) (v1 : Int32) (v2 : Int32) (hi : Nat → Nat → Int32) (hl : Nat → Nat → Int64) (r : xRr) : Option (Int32 × xSt) := F_X7_beginning_2 S 1000000 v0 v1 v2 (0 : Int32) hi hl r
set_option maxRecDepth 20000 in
set_option maxHeartbeats 2000000 in
theorem r_X7_beginning (S : Nat → Int32 → Int32 → (Nat → Nat → Int32) → (Nat → Nat → Int64) → xRr → Option (Int32 × xSt)) (dS : Nat) (hS : ∀ (v0 : Nat) (v1 v2 : Int32) (hi : Nat → Nat → Int32) (hl : Nat → Nat → Int64) (r : xRr) (o : Int32 × xSt), S v0 v1 v2 hi hl r = some o → xM yX7_sorts cX7_sorts 3 3 (dS, 0, 0) z [.ref v0, .int v1, .int v2] (xhp hi hl r) (xoI o)) (v0 : Nat) (v1 : Int32) (v2 : Int32) (hi : Nat → Nat → Int32) (hl : Nat → Nat → Int64) (r : xRr) (o : Int32 × xSt) (h : F_X7_beginning S v0 v1 v2 hi hl r = some o) : xM yX7_beginning cX7_beginning 4 1 (dS + 1, 0, 0) z [.ref v0, .int v1, .int v2] (xhp hi hl r) (xoI o) := by
  refine x_meth2 (C := RX7) (ini := false) (L := [some (.ref v0), some (.int v1), some (.int v2), none]) rfl (by decide) (fun h9 => by cases h9) (by decide) (Nat.le_of_ble_eq_true rfl) rfl ?_
  refine x_iconst (pc' := 1) (x := 0) dX7_beginning_0 (by decide) rfl ?_
  refine x_istore_n (pc' := 2) (L' := [some (.ref v0), some (.int v1), some (.int v2), some (.int (0 : Int32))]) dX7_beginning_1 (Nat.le_of_ble_eq_true rfl) rfl rfl ?_
  exact r_X7_beginning_2 S dS hS 1000000 _ _ _ _ _ _ _ _ h
def F_X7_sorts : Nat → Nat → Int32 → Int32 → (Nat → Nat → Int32) → (Nat → Nat → Int64) → xRr → Option (Int32 × xSt)
  | 0, _, _, _, _, _, _ => none
  | n + 1, v0, v1, v2, hi, hl, r => xbP (F_J6_bitCount_0f7a4 v1) (fun w2 => if (1 : Int32) < w2 then if v2 = 0 then some ((0 : Int32), hi, hl, r) else xbP (F_J6_bitCount_0f7a4 (v1 &&& (2047 : Int32))) (fun w6 => if w6 ≤ ((1 : Int32) <<< (v2 &&& 31)) then xbI (F_X7_beginning (F_X7_sorts n) v0 v1 v2 hi hl r) (fun w9 hi9 hl9 r9 => if w9 = ((-20) : Int32) then some ((0 : Int32), hi9, hl9, r9) else some ((1 : Int32), hi9, hl9, r9)) else some ((0 : Int32), hi, hl, r)) else some ((1 : Int32), hi, hl, r))
set_option maxRecDepth 20000 in
set_option maxHeartbeats 2000000 in
theorem r_X7_sorts : ∀ (n : Nat) (v0 : Nat) (v1 : Int32) (v2 : Int32) (hi : Nat → Nat → Int32) (hl : Nat → Nat → Int64) (r : xRr) (o : Int32 × xSt), F_X7_sorts n v0 v1 v2 hi hl r = some o → xM yX7_sorts cX7_sorts 3 3 (2 * n + 2, 0, 0) z [.ref v0, .int v1, .int v2] (xhp hi hl r) (xoI o) := by
  intro n
  induction n with
  | zero =>
    intro v0 v1 v2 hi hl r o h
    have h : none = some o := h
    cases h
  | succ n ih =>
    intro v0 v1 v2 hi hl r o h
    refine x_meth2 (C := RX7) (ini := false) (L := [some (.ref v0), some (.int v1), some (.int v2)]) rfl (by decide) (fun h9 => by cases h9) (by decide) (Nat.le_of_ble_eq_true rfl) rfl ?_
    refine x_iload_n (pc' := 1) dX7_sorts_0 rfl rfl ?_
    refine xg_bP h (fun w2 e1 h => ?_)
    refine x_callS (pc' := 4) (S := []) (As := [.int v1]) (b' := (0, 0, 0)) dX7_sorts_1 l_X7_50 m_J6_bitCount_0f7a4 rfl rfl (Nat.le_of_ble_eq_true rfl) (by simp only; omega) (Nat.le_of_ble_eq_true rfl) (Nat.le_of_ble_eq_true rfl) (r_J6_bitCount_0f7a4 _ _ _ e1) rfl ?_
    refine x_iconst (pc' := 5) (x := 1) dX7_sorts_4 (by decide) rfl ?_
    refine xg_ite h (fun g3 h => ?_) (fun g3 h => ?_)
    · refine x_icmp_gt (tgt := 10) (pc' := 8) dX7_sorts_5 (by decide) rfl (fun _ => ?_) (fun hn => absurd g3 hn)
      refine x_iload_n (pc' := 11) dX7_sorts_10 rfl rfl ?_
      refine xg_ite h (fun g4 h => ?_) (fun g4 h => ?_)
      · refine x_if_eq (tgt := 28) (pc' := 14) dX7_sorts_11 (by decide) rfl (fun _ => ?_) (fun hn => absurd g4 hn)
        refine x_iconst (pc' := 29) (x := 0) dX7_sorts_28 (by decide) rfl ?_
        obtain rfl := Option.some.inj h
        exact x_zret dX7_sorts_29 rfl (Or.inl rfl) rfl (Nat.le_of_ble_eq_true rfl) rfl
      · refine x_if_eq (tgt := 28) (pc' := 14) dX7_sorts_11 (by decide) rfl (fun hn => absurd hn g4) (fun _ => ?_)
        refine x_iload_n (pc' := 15) dX7_sorts_14 rfl rfl ?_
        refine x_sipush (pc' := 18) (x := 2047) dX7_sorts_15 (by decide) rfl ?_
        refine x_iand (pc' := 19) dX7_sorts_18 rfl ?_
        refine xg_bP h (fun w6 e5 h => ?_)
        refine x_callS (pc' := 22) (S := []) (As := [.int (v1 &&& (2047 : Int32))]) (b' := (0, 0, 0)) dX7_sorts_19 l_X7_50 m_J6_bitCount_0f7a4 rfl rfl (Nat.le_of_ble_eq_true rfl) (by simp only; omega) (Nat.le_of_ble_eq_true rfl) (Nat.le_of_ble_eq_true rfl) (r_J6_bitCount_0f7a4 _ _ _ e5) rfl ?_
        refine x_iconst (pc' := 23) (x := 1) dX7_sorts_22 (by decide) rfl ?_
        refine x_iload_n (pc' := 24) dX7_sorts_23 rfl rfl ?_
        refine x_ishl (pc' := 25) dX7_sorts_24 rfl ?_
        refine xg_ite h (fun g7 h => ?_) (fun g7 h => ?_)
        · refine x_icmp_le (tgt := 30) (pc' := 28) dX7_sorts_25 (by decide) rfl (fun _ => ?_) (fun hn => absurd g7 hn)
          refine x_aload_n (pc' := 31) dX7_sorts_30 rfl rfl ?_
          refine x_iload_n (pc' := 32) dX7_sorts_31 rfl rfl ?_
          refine x_iload_n (pc' := 33) dX7_sorts_32 rfl rfl ?_
          refine xg_bI h (fun w9 hi9 hl9 r9 e8 h => ?_)
          refine x_callS (pc' := 36) (S := []) (As := [.ref v0, .int v1, .int v2]) (b' := (2 * n + 2 + 1, 0, 0)) dX7_sorts_33 l_X7_46 m_X7_beginning rfl rfl (Nat.le_of_ble_eq_true rfl) (by simp only; omega) (Nat.le_of_ble_eq_true rfl) (Nat.le_of_ble_eq_true rfl) (r_X7_beginning (F_X7_sorts n) (2 * n + 2) ih _ _ _ _ _ _ _ e8) rfl ?_
          refine x_bipush (pc' := 38) (x := (-20)) dX7_sorts_36 (by decide) rfl ?_
          refine xg_ite h (fun g10 h => ?_) (fun g10 h => ?_)
          · refine x_icmp_eq (tgt := 45) (pc' := 41) dX7_sorts_38 (by decide) rfl (fun _ => ?_) (fun hn => absurd g10 hn)
            refine x_iconst (pc' := 46) (x := 0) dX7_sorts_45 (by decide) rfl ?_
            obtain rfl := Option.some.inj h
            exact x_zret dX7_sorts_46 rfl (Or.inl rfl) rfl (Nat.le_of_ble_eq_true rfl) rfl
          · refine x_icmp_eq (tgt := 45) (pc' := 41) dX7_sorts_38 (by decide) rfl (fun hn => absurd hn g10) (fun _ => ?_)
            refine x_iconst (pc' := 42) (x := 1) dX7_sorts_41 (by decide) rfl ?_
            refine x_goto (tgt := 46) dX7_sorts_42 (by decide) ?_
            obtain rfl := Option.some.inj h
            exact x_zret dX7_sorts_46 rfl (Or.inr rfl) rfl (Nat.le_of_ble_eq_true rfl) rfl
        · refine x_icmp_le (tgt := 30) (pc' := 28) dX7_sorts_25 (by decide) rfl (fun hn => absurd hn g7) (fun _ => ?_)
          refine x_iconst (pc' := 29) (x := 0) dX7_sorts_28 (by decide) rfl ?_
          obtain rfl := Option.some.inj h
          exact x_zret dX7_sorts_29 rfl (Or.inl rfl) rfl (Nat.le_of_ble_eq_true rfl) rfl
    · refine x_icmp_gt (tgt := 10) (pc' := 8) dX7_sorts_5 (by decide) rfl (fun hn => absurd hn g3) (fun _ => ?_)
      refine x_iconst (pc' := 9) (x := 1) dX7_sorts_8 (by decide) rfl ?_
      obtain rfl := Option.some.inj h
      exact x_zret dX7_sorts_9 rfl (Or.inr rfl) rfl (Nat.le_of_ble_eq_true rfl) rfl
def F_X7_leastTries_2 : Nat → Int32 → (Nat → Nat → Int32) → (Nat → Nat → Int64) → xRr → Option (Int32 × xSt)
  | 0, _, _, _, _ => none
  | n + 1, v1, hi, hl, r => if (13 : Int32) ≤ v1 then some ((13 : Int32), hi, hl, r) else xbI (F_X7_sorts 14 84 (hi 83 1) v1 hi hl r) (fun w3 hi3 hl3 r3 => if w3 = 0 then (F_X7_leastTries_2 n) (v1 + (1)) hi3 hl3 r3 else some (v1, hi3, hl3, r3))
set_option maxRecDepth 20000 in
set_option maxHeartbeats 2000000 in
theorem r_X7_leastTries_2 : ∀ (n : Nat) (v1 : Int32) (hi : Nat → Nat → Int32) (hl : Nat → Nat → Int64) (r : xRr) (o : Int32 × xSt), F_X7_leastTries_2 n v1 hi hl r = some o → xR (RX7, cX7_leastTries, 2, false, 1) (31, 0, 0) z 0 0 2 [some (.ref 83), some (.int v1)] [] (xhp hi hl r) (xoI o) := by
  intro n
  induction n with
  | zero =>
    intro v1 hi hl r o h
    have h : none = some o := h
    cases h
  | succ n ih =>
    intro v1 hi hl r o h
    refine x_iload_n (pc' := 3) dX7_leastTries_2 rfl rfl ?_
    refine x_bipush (pc' := 5) (x := 13) dX7_leastTries_3 (by decide) rfl ?_
    refine xg_ite h (fun g1 h => ?_) (fun g1 h => ?_)
    · refine x_icmp_ge (tgt := 31) (pc' := 8) dX7_leastTries_5 (by decide) rfl (fun _ => ?_) (fun hn => absurd g1 hn)
      refine x_bipush (pc' := 33) (x := 13) dX7_leastTries_31 (by decide) rfl ?_
      obtain rfl := Option.some.inj h
      exact x_iret dX7_leastTries_33 rfl rfl (Nat.le_of_ble_eq_true rfl) rfl
    · refine x_icmp_ge (tgt := 31) (pc' := 8) dX7_leastTries_5 (by decide) rfl (fun hn => absurd hn g1) (fun _ => ?_)
      refine x_aload_n (pc' := 9) dX7_leastTries_8 rfl rfl ?_
      refine x_getr (pc' := 12) (t := 84) dX7_leastTries_9 f_X7_11 (by decide) rfl rfl rfl rfl ?_
      refine x_aload_n (pc' := 13) dX7_leastTries_12 rfl rfl ?_
      refine x_geti (pc' := 16) dX7_leastTries_13 f_X7_15 (by decide) rfl rfl rfl ?_
      refine x_iload_n (pc' := 17) dX7_leastTries_16 rfl rfl ?_
      refine xg_bI h (fun w3 hi3 hl3 r3 e2 h => ?_)
      refine x_callS (pc' := 20) (S := []) (As := [.ref 84, .int (hi 83 1), .int v1]) (b' := (30, 0, 0)) dX7_leastTries_17 l_X7_38 m_X7_sorts rfl rfl (Nat.le_of_ble_eq_true rfl) (Nat.le_of_ble_eq_true rfl) (Nat.le_of_ble_eq_true rfl) (Nat.le_of_ble_eq_true rfl) (r_X7_sorts 14 _ _ _ _ _ _ _ e2) rfl ?_
      refine xg_ite h (fun g4 h => ?_) (fun g4 h => ?_)
      · refine x_if_eq (tgt := 25) (pc' := 23) dX7_leastTries_20 (by decide) rfl (fun _ => ?_) (fun hn => absurd g4 hn)
        refine x_iinc (pc' := 28) (v := (v1 + (1))) (L' := [some (.ref 83), some (.int (v1 + (1)))]) dX7_leastTries_25 rfl rfl (Nat.le_of_ble_eq_true rfl) rfl rfl ?_
        refine x_goto (tgt := 2) dX7_leastTries_28 (by decide) ?_
        exact ih _ _ _ _ _ h
      · refine x_if_eq (tgt := 25) (pc' := 23) dX7_leastTries_20 (by decide) rfl (fun hn => absurd hn g4) (fun _ => ?_)
        refine x_iload_n (pc' := 24) dX7_leastTries_23 rfl rfl ?_
        obtain rfl := Option.some.inj h
        exact x_iret dX7_leastTries_24 rfl rfl (Nat.le_of_ble_eq_true rfl) rfl
def F_X7_leastTries (hi : Nat → Nat → Int32) (hl : Nat → Nat → Int64) (r : xRr) : Option (Int32 × xSt) := F_X7_leastTries_2 1000000 (0 : Int32) hi hl r
set_option maxRecDepth 20000 in
set_option maxHeartbeats 2000000 in
theorem r_X7_leastTries (hi : Nat → Nat → Int32) (hl : Nat → Nat → Int64) (r : xRr) (o : Int32 × xSt) (h : F_X7_leastTries hi hl r = some o) : xM yX7_leastTries cX7_leastTries 2 1 (31, 0, 0) z [.ref 83] (xhp hi hl r) (xoI o) := by
  refine x_meth2 (C := RX7) (ini := false) (L := [some (.ref 83), none]) rfl (by decide) (fun h9 => by cases h9) (by decide) (Nat.le_of_ble_eq_true rfl) rfl ?_
  refine x_iconst (pc' := 1) (x := 0) dX7_leastTries_0 (by decide) rfl ?_
  refine x_istore_n (pc' := 2) (L' := [some (.ref 83), some (.int (0 : Int32))]) dX7_leastTries_1 (Nat.le_of_ble_eq_true rfl) rfl rfl ?_
  exact r_X7_leastTries_2 1000000 _ _ _ _ _ h
end
