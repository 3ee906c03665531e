section
variable {z : xZ}
def F_X11_number (hi : Nat → Nat → Int32) (hl : Nat → Nat → Int64) (r : xRr) : Option (Int64 × xSt) := some ((hl 85 1), hi, hl, r)
set_option maxRecDepth 20000 in
set_option maxHeartbeats 2000000 in
theorem r_X11_number (hi : Nat → Nat → Int32) (hl : Nat → Nat → Int64) (r : xRr) (o : Int64 × xSt) (h : F_X11_number hi hl r = some o) : xM yX11_number cX11_number 1 2 (0, 0, 0) z [.ref 0] (xhp hi hl r) (xoL o) := by
  refine x_meth2 (C := RX11) (ini := false) (L := [some (.ref 0)]) rfl (by decide) (fun h9 => by cases h9) (by decide) (Nat.le_of_ble_eq_true rfl) rfl ?_
  refine x_aload_n (pc' := 1) dX11_number_0 rfl rfl ?_
  refine x_getr (pc' := 4) (t := 85) dX11_number_1 f_X11_83 (by decide) rfl rfl rfl rfl ?_
  refine x_getl (pc' := 7) dX11_number_4 f_X11_154 (by decide) rfl rfl rfl ?_
  obtain rfl := Option.some.inj h
  exact x_lret dX11_number_7 rfl rfl (Nat.le_of_ble_eq_true rfl) rfl
def F_X11_kind (hi : Nat → Nat → Int32) (hl : Nat → Nat → Int64) (r : xRr) : Option (Int32 × xSt) := if (hi 85 0) = (10 : Int32) then some (((-20) : Int32), hi, hl, r) else some ((hi 85 0), hi, hl, r)
set_option maxRecDepth 20000 in
set_option maxHeartbeats 2000000 in
theorem r_X11_kind (hi : Nat → Nat → Int32) (hl : Nat → Nat → Int64) (r : xRr) (o : Int32 × xSt) (h : F_X11_kind hi hl r = some o) : xM yX11_kind cX11_kind 1 1 (0, 0, 0) z [.ref 0] (xhp hi hl r) (xoI o) := by
  refine x_meth2 (C := RX11) (ini := false) (L := [some (.ref 0)]) rfl (by decide) (fun h9 => by cases h9) (by decide) (Nat.le_of_ble_eq_true rfl) rfl ?_
  refine x_aload_n (pc' := 1) dX11_kind_0 rfl rfl ?_
  refine x_getr (pc' := 4) (t := 85) dX11_kind_1 f_X11_83 (by decide) rfl rfl rfl rfl ?_
  refine x_geti (pc' := 7) dX11_kind_4 f_X11_151 (by decide) rfl rfl rfl ?_
  refine x_bipush (pc' := 9) (x := 10) dX11_kind_7 (by decide) rfl ?_
  refine xg_ite h (fun g1 h => ?_) (fun g1 h => ?_)
  · refine x_icmp_ne (tgt := 17) (pc' := 12) dX11_kind_9 (by decide) rfl (fun hn => absurd g1 hn) (fun _ => ?_)
    refine x_bipush (pc' := 14) (x := (-20)) dX11_kind_12 (by decide) rfl ?_
    refine x_goto (tgt := 24) dX11_kind_14 (by decide) ?_
    obtain rfl := Option.some.inj h
    exact x_iret dX11_kind_24 rfl rfl (Nat.le_of_ble_eq_true rfl) rfl
  · refine x_icmp_ne (tgt := 17) (pc' := 12) dX11_kind_9 (by decide) rfl (fun _ => ?_) (fun hn => absurd hn g1)
    refine x_aload_n (pc' := 18) dX11_kind_17 rfl rfl ?_
    refine x_getr (pc' := 21) (t := 85) dX11_kind_18 f_X11_83 (by decide) rfl rfl rfl rfl ?_
    refine x_geti (pc' := 24) dX11_kind_21 f_X11_151 (by decide) rfl rfl rfl ?_
    obtain rfl := Option.some.inj h
    exact x_iret dX11_kind_24 rfl rfl (Nat.le_of_ble_eq_true rfl) rfl
def F_X11_writes_104 (s1 : Int32) (s2 : Int32) (s4 : Int32) (hi : Nat → Nat → Int32) (hl : Nat → Nat → Int64) (r : xRr) : Option (Int32 × xSt) := xbI (F_X5_put s1 s2 86 s4 hi hl r) (fun w2 hi2 hl2 r2 => if w2 = 0 then xbV (F_X1_keepMark hi2 hl2 r2) (fun hi5 hl5 r5 => some (w2, hi5, hl5, r5)) else some (w2, hi2, hl2, r2))
set_option maxRecDepth 20000 in
set_option maxHeartbeats 2000000 in
theorem r_X11_writes_104 (s1 : Int32) (s2 : Int32) (s4 : Int32) (d1 : Option Value) (d2 : Option Value) (d3 : Option Value) (d4 : Option Value) (d5 : Option Value) (d6 : Option Value) (d7 : Option Value) (hi : Nat → Nat → Int32) (hl : Nat → Nat → Int64) (r : xRr) (o : Int32 × xSt) (h : F_X11_writes_104 s1 s2 s4 hi hl r = some o) : xR (RX11, cX11_writes, 8, false, 1) (5, 0, 0) z 0 0 104 [some (.ref 0), d1, d2, d3, d4, d5, d6, d7] [.int s4, .ref 86, .int s2, .int s1, .ref 14] (xhp hi hl r) (xoI o) := by
  refine xg_bI h (fun w2 hi2 hl2 r2 e1 h => ?_)
  refine x_callV (pc' := 107) (S := []) (As := [.int s1, .int s2, .ref 86, .int s4]) (b' := (4, 0, 0)) dX11_writes_104 l_X11_178 m_X5_put rfl rfl (show 14 < 122 by decide) rfl (Nat.le_of_ble_eq_true rfl) (Nat.le_of_ble_eq_true rfl) (Nat.le_of_ble_eq_true rfl) (Nat.le_of_ble_eq_true rfl) (r_X5_put _ _ _ _ _ _ _ _ e1) rfl ?_
  refine x_istore (pc' := 109) (L' := [some (.ref 0), d1, d2, d3, d4, d5, (xcl d6), some (.int w2)]) dX11_writes_107 (Nat.le_of_ble_eq_true rfl) rfl rfl ?_
  refine x_iload (pc' := 111) dX11_writes_109 rfl rfl ?_
  refine xg_ite h (fun g3 h => ?_) (fun g3 h => ?_)
  · refine x_if_ne (tgt := 121) (pc' := 114) dX11_writes_111 (by decide) rfl (fun hn => absurd g3 hn) (fun _ => ?_)
    refine x_aload_n (pc' := 115) dX11_writes_114 rfl rfl ?_
    refine x_getr (pc' := 118) (t := 41) dX11_writes_115 f_X11_62 (by decide) rfl rfl rfl rfl ?_
    refine xg_bV h (fun hi5 hl5 r5 e4 h => ?_)
    refine x_callV (pc' := 121) (S := []) (As := []) (b' := (1, 0, 0)) dX11_writes_118 l_X11_182 m_X1_keepMark rfl rfl (show 41 < 122 by decide) rfl (Nat.le_of_ble_eq_true rfl) (Nat.le_of_ble_eq_true rfl) (Nat.le_of_ble_eq_true rfl) (Nat.le_of_ble_eq_true rfl) (r_X1_keepMark _ _ _ _ e4) rfl ?_
    refine x_iload (pc' := 123) dX11_writes_121 rfl rfl ?_
    obtain rfl := Option.some.inj h
    exact x_iret dX11_writes_123 rfl rfl (Nat.le_of_ble_eq_true rfl) rfl
  · refine x_if_ne (tgt := 121) (pc' := 114) dX11_writes_111 (by decide) rfl (fun _ => ?_) (fun hn => absurd hn g3)
    refine x_iload (pc' := 123) dX11_writes_121 rfl rfl ?_
    obtain rfl := Option.some.inj h
    exact x_iret dX11_writes_123 rfl rfl (Nat.le_of_ble_eq_true rfl) rfl
def F_X11_writes_69 (v1 : Int32) (v2 : Int32) (v3 : Int32) (v4 : Int32) (s1 : Int32) (s2 : Int64) (hi : Nat → Nat → Int32) (hl : Nat → Nat → Int64) (r : xRr) : Option (Int32 × xSt) := xbV (F_X6_become 86 s1 s2 hi hl r) (fun hi2 hl2 r2 => xbV (F_X1_mark hi2 hl2 r2) (fun hi4 hl4 r4 => if v4 = 0 then F_X11_writes_104 v1 v2 v3 hi4 hl4 r4 else F_X11_writes_104 v1 v2 (8 : Int32) hi4 hl4 r4))
set_option maxRecDepth 20000 in
set_option maxHeartbeats 2000000 in
theorem r_X11_writes_69 (v1 : Int32) (v2 : Int32) (v3 : Int32) (v4 : Int32) (s1 : Int32) (s2 : Int64) (d5 : Option Value) (d6 : Option Value) (d7 : Option Value) (hi : Nat → Nat → Int32) (hl : Nat → Nat → Int64) (r : xRr) (o : Int32 × xSt) (h : F_X11_writes_69 v1 v2 v3 v4 s1 s2 hi hl r = some o) : xR (RX11, cX11_writes, 8, false, 1) (5, 0, 0) z 0 0 69 [some (.ref 0), some (.int v1), some (.int v2), some (.int v3), some (.int v4), d5, d6, d7] [.long s2, .int s1, .ref 86] (xhp hi hl r) (xoI o) := by
  refine xg_bV h (fun hi2 hl2 r2 e1 h => ?_)
  refine x_callV (pc' := 72) (S := []) (As := [.int s1, .long s2]) (b' := (2, 0, 0)) dX11_writes_69 l_X11_140 m_X6_become rfl rfl (show 86 < 122 by decide) rfl (Nat.le_of_ble_eq_true rfl) (Nat.le_of_ble_eq_true rfl) (Nat.le_of_ble_eq_true rfl) (Nat.le_of_ble_eq_true rfl) (r_X6_become _ _ _ _ _ _ _ e1) rfl ?_
  refine x_aload_n (pc' := 73) dX11_writes_72 rfl rfl ?_
  refine x_getr (pc' := 76) (t := 41) dX11_writes_73 f_X11_62 (by decide) rfl rfl rfl rfl ?_
  refine x_aload_n (pc' := 77) dX11_writes_76 rfl rfl ?_
  refine x_getr (pc' := 80) (t := 1) dX11_writes_77 f_X11_12 (by decide) rfl rfl rfl rfl ?_
  refine xg_bV h (fun hi4 hl4 r4 e3 h => ?_)
  refine x_callV (pc' := 83) (S := []) (As := [.ref 1]) (b' := (2, 0, 0)) dX11_writes_80 l_X11_175 m_X1_mark rfl rfl (show 41 < 122 by decide) rfl (Nat.le_of_ble_eq_true rfl) (Nat.le_of_ble_eq_true rfl) (Nat.le_of_ble_eq_true rfl) (Nat.le_of_ble_eq_true rfl) (r_X1_mark _ _ _ _ e3) rfl ?_
  refine x_aload_n (pc' := 84) dX11_writes_83 rfl rfl ?_
  refine x_getr (pc' := 87) (t := 14) dX11_writes_84 f_X11_30 (by decide) rfl rfl rfl rfl ?_
  refine x_iload_n (pc' := 88) dX11_writes_87 rfl rfl ?_
  refine x_iload_n (pc' := 89) dX11_writes_88 rfl rfl ?_
  refine x_aload_n (pc' := 90) dX11_writes_89 rfl rfl ?_
  refine x_getr (pc' := 93) (t := 86) dX11_writes_90 f_X11_87 (by decide) rfl rfl rfl rfl ?_
  refine x_iload (pc' := 95) dX11_writes_93 rfl rfl ?_
  refine xg_ite h (fun g5 h => ?_) (fun g5 h => ?_)
  · refine x_if_ne (tgt := 102) (pc' := 98) dX11_writes_95 (by decide) rfl (fun hn => absurd g5 hn) (fun _ => ?_)
    refine x_iload_n (pc' := 99) dX11_writes_98 rfl rfl ?_
    refine x_goto (tgt := 104) dX11_writes_99 (by decide) ?_
    exact r_X11_writes_104 _ _ _ _ _ _ _ _ _ _ _ _ _ _ h
  · refine x_if_ne (tgt := 102) (pc' := 98) dX11_writes_95 (by decide) rfl (fun _ => ?_) (fun hn => absurd hn g5)
    refine x_bipush (pc' := 104) (x := 8) dX11_writes_102 (by decide) rfl ?_
    exact r_X11_writes_104 _ _ _ _ _ _ _ _ _ _ _ _ _ _ h
def F_X11_writes_52 (v1 : Int32) (v2 : Int32) (v3 : Int32) (v4 : Int32) (v5 : Int64) (hi : Nat → Nat → Int32) (hl : Nat → Nat → Int64) (r : xRr) : Option (Int32 × xSt) := if v3 = (10 : Int32) then F_X11_writes_69 v1 v2 v3 v4 v3 (0 : Int64) hi hl r else F_X11_writes_69 v1 v2 v3 v4 v3 v5 hi hl r
set_option maxRecDepth 20000 in
set_option maxHeartbeats 2000000 in
theorem r_X11_writes_52 (v1 : Int32) (v2 : Int32) (v3 : Int32) (v4 : Int32) (v5 : Int64) (d6 : Option Value) (d7 : Option Value) (hi : Nat → Nat → Int32) (hl : Nat → Nat → Int64) (r : xRr) (o : Int32 × xSt) (h : F_X11_writes_52 v1 v2 v3 v4 v5 hi hl r = some o) : xR (RX11, cX11_writes, 8, false, 1) (5, 0, 0) z 0 0 52 [some (.ref 0), some (.int v1), some (.int v2), some (.int v3), some (.int v4), some (.long v5), d6, d7] [] (xhp hi hl r) (xoI o) := by
  refine x_aload_n (pc' := 53) dX11_writes_52 rfl rfl ?_
  refine x_getr (pc' := 56) (t := 86) dX11_writes_53 f_X11_87 (by decide) rfl rfl rfl rfl ?_
  refine x_iload_n (pc' := 57) dX11_writes_56 rfl rfl ?_
  refine x_iload_n (pc' := 58) dX11_writes_57 rfl rfl ?_
  refine x_bipush (pc' := 60) (x := 10) dX11_writes_58 (by decide) rfl ?_
  refine xg_ite h (fun g1 h => ?_) (fun g1 h => ?_)
  · refine x_icmp_ne (tgt := 67) (pc' := 63) dX11_writes_60 (by decide) rfl (fun hn => absurd g1 hn) (fun _ => ?_)
    refine x_lconst (pc' := 64) (x := 0) dX11_writes_63 (by decide) rfl ?_
    refine x_goto (tgt := 69) dX11_writes_64 (by decide) ?_
    exact r_X11_writes_69 _ _ _ _ _ _ _ _ _ _ _ _ _ h
  · refine x_icmp_ne (tgt := 67) (pc' := 63) dX11_writes_60 (by decide) rfl (fun _ => ?_) (fun hn => absurd hn g1)
    refine x_lload (pc' := 69) dX11_writes_67 rfl rfl ?_
    exact r_X11_writes_69 _ _ _ _ _ _ _ _ _ _ _ _ _ h
def F_X11_writes (v1 : Int32) (v2 : Int32) (v3 : Int32) (v4 : Int32) (v5 : Int64) (hi : Nat → Nat → Int32) (hl : Nat → Nat → Int64) (r : xRr) : Option (Int32 × xSt) := xbI (F_X8_has v1 hi hl r) (fun w2 hi2 hl2 r2 => if w2 = 0 then some (((-1) : Int32), hi2, hl2, r2) else xbP (F_X11_isPlace v2) (fun w5 => if w5 = 0 then some (((-1) : Int32), hi2, hl2, r2) else xbP (F_X11_within v4 (0 : Int32) (1 : Int32)) (fun w8 => if w8 = 0 then some (((-1) : Int32), hi2, hl2, r2) else xbP (F_X3_isThing v3 v5) (fun w11 => if w11 = 0 then some (((-1) : Int32), hi2, hl2, r2) else if v4 = 0 then if v3 ≤ (7 : Int32) then F_X11_writes_52 v1 v2 v3 v4 v5 hi2 hl2 r2 else some (((-1) : Int32), hi2, hl2, r2) else F_X11_writes_52 v1 v2 v3 v4 v5 hi2 hl2 r2))))
set_option maxRecDepth 20000 in
set_option maxHeartbeats 2000000 in
theorem r_X11_writes (v1 : Int32) (v2 : Int32) (v3 : Int32) (v4 : Int32) (v5 : Int64) (hi : Nat → Nat → Int32) (hl : Nat → Nat → Int64) (r : xRr) (o : Int32 × xSt) (h : F_X11_writes v1 v2 v3 v4 v5 hi hl r = some o) : xM yX11_writes cX11_writes 8 1 (5, 0, 0) z [.ref 0, .int v1, .int v2, .int v3, .int v4, .long v5] (xhp hi hl r) (xoI o) := by
  refine x_meth2 (C := RX11) (ini := false) (L := [some (.ref 0), some (.int v1), some (.int v2), some (.int v3), some (.int v4), some (.long v5), none, none]) rfl (by decide) (fun h9 => by cases h9) (by decide) (Nat.le_of_ble_eq_true rfl) rfl ?_
  refine x_aload_n (pc' := 1) dX11_writes_0 rfl rfl ?_
  refine x_getr (pc' := 4) (t := 6) dX11_writes_1 f_X11_21 (by decide) rfl rfl rfl rfl ?_
  refine x_iload_n (pc' := 5) dX11_writes_4 rfl rfl ?_
  refine xg_bI h (fun w2 hi2 hl2 r2 e1 h => ?_)
  refine x_callV (pc' := 8) (S := []) (As := [.int v1]) (b' := (0, 0, 0)) dX11_writes_5 l_X11_116 m_X8_has rfl rfl (show 6 < 122 by decide) rfl (Nat.le_of_ble_eq_true rfl) (Nat.le_of_ble_eq_true rfl) (Nat.le_of_ble_eq_true rfl) (Nat.le_of_ble_eq_true rfl) (r_X8_has _ _ _ _ _ e1) rfl ?_
  refine xg_ite h (fun g3 h => ?_) (fun g3 h => ?_)
  · refine x_if_eq (tgt := 37) (pc' := 11) dX11_writes_8 (by decide) rfl (fun _ => ?_) (fun hn => absurd g3 hn)
    refine x_iconst (pc' := 38) (x := (-1)) dX11_writes_37 (by decide) rfl ?_
    obtain rfl := Option.some.inj h
    exact x_iret dX11_writes_38 rfl rfl (Nat.le_of_ble_eq_true rfl) rfl
  · refine x_if_eq (tgt := 37) (pc' := 11) dX11_writes_8 (by decide) rfl (fun hn => absurd hn g3) (fun _ => ?_)
    refine x_iload_n (pc' := 12) dX11_writes_11 rfl rfl ?_
    refine xg_bP h (fun w5 e4 h => ?_)
    refine x_callS (pc' := 15) (S := []) (As := [.int v2]) (b' := (1, 0, 0)) dX11_writes_12 l_X11_144 m_X11_isPlace rfl rfl (Nat.le_of_ble_eq_true rfl) (Nat.le_of_ble_eq_true rfl) (Nat.le_of_ble_eq_true rfl) (Nat.le_of_ble_eq_true rfl) (r_X11_isPlace _ _ _ e4) rfl ?_
    refine xg_ite h (fun g6 h => ?_) (fun g6 h => ?_)
    · refine x_if_eq (tgt := 37) (pc' := 18) dX11_writes_15 (by decide) rfl (fun _ => ?_) (fun hn => absurd g6 hn)
      refine x_iconst (pc' := 38) (x := (-1)) dX11_writes_37 (by decide) rfl ?_
      obtain rfl := Option.some.inj h
      exact x_iret dX11_writes_38 rfl rfl (Nat.le_of_ble_eq_true rfl) rfl
    · refine x_if_eq (tgt := 37) (pc' := 18) dX11_writes_15 (by decide) rfl (fun hn => absurd hn g6) (fun _ => ?_)
      refine x_iload (pc' := 20) dX11_writes_18 rfl rfl ?_
      refine x_iconst (pc' := 21) (x := 0) dX11_writes_20 (by decide) rfl ?_
      refine x_iconst (pc' := 22) (x := 1) dX11_writes_21 (by decide) rfl ?_
      refine xg_bP h (fun w8 e7 h => ?_)
      refine x_callS (pc' := 25) (S := []) (As := [.int v4, .int (0 : Int32), .int (1 : Int32)]) (b' := (0, 0, 0)) dX11_writes_22 l_X11_100 m_X11_within rfl rfl (Nat.le_of_ble_eq_true rfl) (Nat.le_of_ble_eq_true rfl) (Nat.le_of_ble_eq_true rfl) (Nat.le_of_ble_eq_true rfl) (r_X11_within _ _ _ _ _ e7) rfl ?_
      refine xg_ite h (fun g9 h => ?_) (fun g9 h => ?_)
      · refine x_if_eq (tgt := 37) (pc' := 28) dX11_writes_25 (by decide) rfl (fun _ => ?_) (fun hn => absurd g9 hn)
        refine x_iconst (pc' := 38) (x := (-1)) dX11_writes_37 (by decide) rfl ?_
        obtain rfl := Option.some.inj h
        exact x_iret dX11_writes_38 rfl rfl (Nat.le_of_ble_eq_true rfl) rfl
      · refine x_if_eq (tgt := 37) (pc' := 28) dX11_writes_25 (by decide) rfl (fun hn => absurd hn g9) (fun _ => ?_)
        refine x_iload_n (pc' := 29) dX11_writes_28 rfl rfl ?_
        refine x_lload (pc' := 31) dX11_writes_29 rfl rfl ?_
        refine xg_bP h (fun w11 e10 h => ?_)
        refine x_callS (pc' := 34) (S := []) (As := [.int v3, .long v5]) (b' := (0, 0, 0)) dX11_writes_31 l_X11_169 m_X3_isThing rfl rfl (Nat.le_of_ble_eq_true rfl) (Nat.le_of_ble_eq_true rfl) (Nat.le_of_ble_eq_true rfl) (Nat.le_of_ble_eq_true rfl) (r_X3_isThing _ _ _ _ e10) rfl ?_
        refine xg_ite h (fun g12 h => ?_) (fun g12 h => ?_)
        · refine x_if_ne (tgt := 39) (pc' := 37) dX11_writes_34 (by decide) rfl (fun hn => absurd g12 hn) (fun _ => ?_)
          refine x_iconst (pc' := 38) (x := (-1)) dX11_writes_37 (by decide) rfl ?_
          obtain rfl := Option.some.inj h
          exact x_iret dX11_writes_38 rfl rfl (Nat.le_of_ble_eq_true rfl) rfl
        · refine x_if_ne (tgt := 39) (pc' := 37) dX11_writes_34 (by decide) rfl (fun _ => ?_) (fun hn => absurd hn g12)
          refine x_iload (pc' := 41) dX11_writes_39 rfl rfl ?_
          refine xg_ite h (fun g13 h => ?_) (fun g13 h => ?_)
          · refine x_if_ne (tgt := 52) (pc' := 44) dX11_writes_41 (by decide) rfl (fun hn => absurd g13 hn) (fun _ => ?_)
            refine x_iload_n (pc' := 45) dX11_writes_44 rfl rfl ?_
            refine x_bipush (pc' := 47) (x := 7) dX11_writes_45 (by decide) rfl ?_
            refine xg_ite h (fun g14 h => ?_) (fun g14 h => ?_)
            · refine x_icmp_le (tgt := 52) (pc' := 50) dX11_writes_47 (by decide) rfl (fun _ => ?_) (fun hn => absurd g14 hn)
              exact r_X11_writes_52 _ _ _ _ _ _ _ _ _ _ _ h
            · refine x_icmp_le (tgt := 52) (pc' := 50) dX11_writes_47 (by decide) rfl (fun hn => absurd hn g14) (fun _ => ?_)
              refine x_iconst (pc' := 51) (x := (-1)) dX11_writes_50 (by decide) rfl ?_
              obtain rfl := Option.some.inj h
              exact x_iret dX11_writes_51 rfl rfl (Nat.le_of_ble_eq_true rfl) rfl
          · refine x_if_ne (tgt := 52) (pc' := 44) dX11_writes_41 (by decide) rfl (fun _ => ?_) (fun hn => absurd hn g13)
            exact r_X11_writes_52 _ _ _ _ _ _ _ _ _ _ _ h
def F_X11_does (v1 : Int32) (v2 : Int32) (v3 : Int32) (v4 : Int32) (v5 : Int32) (hi : Nat → Nat → Int32) (hl : Nat → Nat → Int64) (r : xRr) : Option (Int32 × xSt) := xbP (F_X11_within v1 (0 : Int32) (4 : Int32)) (fun w2 => if w2 = 0 then some (((-1) : Int32), hi, hl, r) else xbI (F_X8_has v2 hi hl r) (fun w5 hi5 hl5 r5 => if w5 = 0 then some (((-1) : Int32), hi5, hl5, r5) else xbP (F_X11_isPlace v3) (fun w8 => if w8 = 0 then some (((-1) : Int32), hi5, hl5, r5) else xbI (F_X8_has v4 hi5 hl5 r5) (fun w11 hi11 hl11 r11 => if w11 = 0 then some (((-1) : Int32), hi11, hl11, r11) else xbP (F_X11_isPlace v5) (fun w14 => if w14 = 0 then some (((-1) : Int32), hi11, hl11, r11) else xbV (F_X1_mark hi11 hl11 r11) (fun hi17 hl17 r17 => xbI (F_X5_perform v1 v2 v3 v4 v5 hi17 hl17 r17) (fun w19 hi19 hl19 r19 => if w19 = 0 then xbV (F_X1_keepMark hi19 hl19 r19) (fun hi22 hl22 r22 => some (w19, hi22, hl22, r22)) else some (w19, hi19, hl19, r19))))))))
set_option maxRecDepth 20000 in
set_option maxHeartbeats 2000000 in
theorem r_X11_does (v1 : Int32) (v2 : Int32) (v3 : Int32) (v4 : Int32) (v5 : Int32) (hi : Nat → Nat → Int32) (hl : Nat → Nat → Int64) (r : xRr) (o : Int32 × xSt) (h : F_X11_does v1 v2 v3 v4 v5 hi hl r = some o) : xM yX11_does cX11_does 7 1 (7, 0, 0) z [.ref 0, .int v1, .int v2, .int v3, .int v4, .int v5] (xhp hi hl r) (xoI o) := by
  refine x_meth2 (C := RX11) (ini := false) (L := [some (.ref 0), some (.int v1), some (.int v2), some (.int v3), some (.int v4), some (.int v5), none]) rfl (by decide) (fun h9 => by cases h9) (by decide) (Nat.le_of_ble_eq_true rfl) rfl ?_
  refine x_iload_n (pc' := 1) dX11_does_0 rfl rfl ?_
  refine x_iconst (pc' := 2) (x := 0) dX11_does_1 (by decide) rfl ?_
  refine x_iconst (pc' := 3) (x := 4) dX11_does_2 (by decide) rfl ?_
  refine xg_bP h (fun w2 e1 h => ?_)
  refine x_callS (pc' := 6) (S := []) (As := [.int v1, .int (0 : Int32), .int (4 : Int32)]) (b' := (0, 0, 0)) dX11_does_3 l_X11_100 m_X11_within rfl rfl (Nat.le_of_ble_eq_true rfl) (Nat.le_of_ble_eq_true rfl) (Nat.le_of_ble_eq_true rfl) (Nat.le_of_ble_eq_true rfl) (r_X11_within _ _ _ _ _ e1) rfl ?_
  refine xg_ite h (fun g3 h => ?_) (fun g3 h => ?_)
  · refine x_if_eq (tgt := 47) (pc' := 9) dX11_does_6 (by decide) rfl (fun _ => ?_) (fun hn => absurd g3 hn)
    refine x_iconst (pc' := 48) (x := (-1)) dX11_does_47 (by decide) rfl ?_
    obtain rfl := Option.some.inj h
    exact x_iret dX11_does_48 rfl rfl (Nat.le_of_ble_eq_true rfl) rfl
  · refine x_if_eq (tgt := 47) (pc' := 9) dX11_does_6 (by decide) rfl (fun hn => absurd hn g3) (fun _ => ?_)
    refine x_aload_n (pc' := 10) dX11_does_9 rfl rfl ?_
    refine x_getr (pc' := 13) (t := 6) dX11_does_10 f_X11_21 (by decide) rfl rfl rfl rfl ?_
    refine x_iload_n (pc' := 14) dX11_does_13 rfl rfl ?_
    refine xg_bI h (fun w5 hi5 hl5 r5 e4 h => ?_)
    refine x_callV (pc' := 17) (S := []) (As := [.int v2]) (b' := (0, 0, 0)) dX11_does_14 l_X11_116 m_X8_has rfl rfl (show 6 < 122 by decide) rfl (Nat.le_of_ble_eq_true rfl) (Nat.le_of_ble_eq_true rfl) (Nat.le_of_ble_eq_true rfl) (Nat.le_of_ble_eq_true rfl) (r_X8_has _ _ _ _ _ e4) rfl ?_
    refine xg_ite h (fun g6 h => ?_) (fun g6 h => ?_)
    · refine x_if_eq (tgt := 47) (pc' := 20) dX11_does_17 (by decide) rfl (fun _ => ?_) (fun hn => absurd g6 hn)
      refine x_iconst (pc' := 48) (x := (-1)) dX11_does_47 (by decide) rfl ?_
      obtain rfl := Option.some.inj h
      exact x_iret dX11_does_48 rfl rfl (Nat.le_of_ble_eq_true rfl) rfl
    · refine x_if_eq (tgt := 47) (pc' := 20) dX11_does_17 (by decide) rfl (fun hn => absurd hn g6) (fun _ => ?_)
      refine x_iload_n (pc' := 21) dX11_does_20 rfl rfl ?_
      refine xg_bP h (fun w8 e7 h => ?_)
      refine x_callS (pc' := 24) (S := []) (As := [.int v3]) (b' := (1, 0, 0)) dX11_does_21 l_X11_144 m_X11_isPlace rfl rfl (Nat.le_of_ble_eq_true rfl) (Nat.le_of_ble_eq_true rfl) (Nat.le_of_ble_eq_true rfl) (Nat.le_of_ble_eq_true rfl) (r_X11_isPlace _ _ _ e7) rfl ?_
      refine xg_ite h (fun g9 h => ?_) (fun g9 h => ?_)
      · refine x_if_eq (tgt := 47) (pc' := 27) dX11_does_24 (by decide) rfl (fun _ => ?_) (fun hn => absurd g9 hn)
        refine x_iconst (pc' := 48) (x := (-1)) dX11_does_47 (by decide) rfl ?_
        obtain rfl := Option.some.inj h
        exact x_iret dX11_does_48 rfl rfl (Nat.le_of_ble_eq_true rfl) rfl
      · refine x_if_eq (tgt := 47) (pc' := 27) dX11_does_24 (by decide) rfl (fun hn => absurd hn g9) (fun _ => ?_)
        refine x_aload_n (pc' := 28) dX11_does_27 rfl rfl ?_
        refine x_getr (pc' := 31) (t := 6) dX11_does_28 f_X11_21 (by decide) rfl rfl rfl rfl ?_
        refine x_iload (pc' := 33) dX11_does_31 rfl rfl ?_
        refine xg_bI h (fun w11 hi11 hl11 r11 e10 h => ?_)
        refine x_callV (pc' := 36) (S := []) (As := [.int v4]) (b' := (0, 0, 0)) dX11_does_33 l_X11_116 m_X8_has rfl rfl (show 6 < 122 by decide) rfl (Nat.le_of_ble_eq_true rfl) (Nat.le_of_ble_eq_true rfl) (Nat.le_of_ble_eq_true rfl) (Nat.le_of_ble_eq_true rfl) (r_X8_has _ _ _ _ _ e10) rfl ?_
        refine xg_ite h (fun g12 h => ?_) (fun g12 h => ?_)
        · refine x_if_eq (tgt := 47) (pc' := 39) dX11_does_36 (by decide) rfl (fun _ => ?_) (fun hn => absurd g12 hn)
          refine x_iconst (pc' := 48) (x := (-1)) dX11_does_47 (by decide) rfl ?_
          obtain rfl := Option.some.inj h
          exact x_iret dX11_does_48 rfl rfl (Nat.le_of_ble_eq_true rfl) rfl
        · refine x_if_eq (tgt := 47) (pc' := 39) dX11_does_36 (by decide) rfl (fun hn => absurd hn g12) (fun _ => ?_)
          refine x_iload (pc' := 41) dX11_does_39 rfl rfl ?_
          refine xg_bP h (fun w14 e13 h => ?_)
          refine x_callS (pc' := 44) (S := []) (As := [.int v5]) (b' := (1, 0, 0)) dX11_does_41 l_X11_144 m_X11_isPlace rfl rfl (Nat.le_of_ble_eq_true rfl) (Nat.le_of_ble_eq_true rfl) (Nat.le_of_ble_eq_true rfl) (Nat.le_of_ble_eq_true rfl) (r_X11_isPlace _ _ _ e13) rfl ?_
          refine xg_ite h (fun g15 h => ?_) (fun g15 h => ?_)
          · refine x_if_ne (tgt := 49) (pc' := 47) dX11_does_44 (by decide) rfl (fun hn => absurd g15 hn) (fun _ => ?_)
            refine x_iconst (pc' := 48) (x := (-1)) dX11_does_47 (by decide) rfl ?_
            obtain rfl := Option.some.inj h
            exact x_iret dX11_does_48 rfl rfl (Nat.le_of_ble_eq_true rfl) rfl
          · refine x_if_ne (tgt := 49) (pc' := 47) dX11_does_44 (by decide) rfl (fun _ => ?_) (fun hn => absurd hn g15)
            refine x_aload_n (pc' := 50) dX11_does_49 rfl rfl ?_
            refine x_getr (pc' := 53) (t := 41) dX11_does_50 f_X11_62 (by decide) rfl rfl rfl rfl ?_
            refine x_aload_n (pc' := 54) dX11_does_53 rfl rfl ?_
            refine x_getr (pc' := 57) (t := 1) dX11_does_54 f_X11_12 (by decide) rfl rfl rfl rfl ?_
            refine xg_bV h (fun hi17 hl17 r17 e16 h => ?_)
            refine x_callV (pc' := 60) (S := []) (As := [.ref 1]) (b' := (2, 0, 0)) dX11_does_57 l_X11_175 m_X1_mark rfl rfl (show 41 < 122 by decide) rfl (Nat.le_of_ble_eq_true rfl) (Nat.le_of_ble_eq_true rfl) (Nat.le_of_ble_eq_true rfl) (Nat.le_of_ble_eq_true rfl) (r_X1_mark _ _ _ _ e16) rfl ?_
            refine x_aload_n (pc' := 61) dX11_does_60 rfl rfl ?_
            refine x_getr (pc' := 64) (t := 14) dX11_does_61 f_X11_30 (by decide) rfl rfl rfl rfl ?_
            refine x_iload_n (pc' := 65) dX11_does_64 rfl rfl ?_
            refine x_iload_n (pc' := 66) dX11_does_65 rfl rfl ?_
            refine x_iload_n (pc' := 67) dX11_does_66 rfl rfl ?_
            refine x_iload (pc' := 69) dX11_does_67 rfl rfl ?_
            refine x_iload (pc' := 71) dX11_does_69 rfl rfl ?_
            refine xg_bI h (fun w19 hi19 hl19 r19 e18 h => ?_)
            refine x_callV (pc' := 74) (S := []) (As := [.int v1, .int v2, .int v3, .int v4, .int v5]) (b' := (6, 0, 0)) dX11_does_71 l_X11_185 m_X5_perform rfl rfl (show 14 < 122 by decide) rfl (Nat.le_of_ble_eq_true rfl) (Nat.le_of_ble_eq_true rfl) (Nat.le_of_ble_eq_true rfl) (Nat.le_of_ble_eq_true rfl) (r_X5_perform _ _ _ _ _ _ _ _ _ e18) rfl ?_
            refine x_istore (pc' := 76) (L' := [some (.ref 0), some (.int v1), some (.int v2), some (.int v3), some (.int v4), some (.int v5), some (.int w19)]) dX11_does_74 (Nat.le_of_ble_eq_true rfl) rfl rfl ?_
            refine x_iload (pc' := 78) dX11_does_76 rfl rfl ?_
            refine xg_ite h (fun g20 h => ?_) (fun g20 h => ?_)
            · refine x_if_ne (tgt := 88) (pc' := 81) dX11_does_78 (by decide) rfl (fun hn => absurd g20 hn) (fun _ => ?_)
              refine x_aload_n (pc' := 82) dX11_does_81 rfl rfl ?_
              refine x_getr (pc' := 85) (t := 41) dX11_does_82 f_X11_62 (by decide) rfl rfl rfl rfl ?_
              refine xg_bV h (fun hi22 hl22 r22 e21 h => ?_)
              refine x_callV (pc' := 88) (S := []) (As := []) (b' := (1, 0, 0)) dX11_does_85 l_X11_182 m_X1_keepMark rfl rfl (show 41 < 122 by decide) rfl (Nat.le_of_ble_eq_true rfl) (Nat.le_of_ble_eq_true rfl) (Nat.le_of_ble_eq_true rfl) (Nat.le_of_ble_eq_true rfl) (r_X1_keepMark _ _ _ _ e21) rfl ?_
              refine x_iload (pc' := 90) dX11_does_88 rfl rfl ?_
              obtain rfl := Option.some.inj h
              exact x_iret dX11_does_90 rfl rfl (Nat.le_of_ble_eq_true rfl) rfl
            · refine x_if_ne (tgt := 88) (pc' := 81) dX11_does_78 (by decide) rfl (fun _ => ?_) (fun hn => absurd hn g20)
              refine x_iload (pc' := 90) dX11_does_88 rfl rfl ?_
              obtain rfl := Option.some.inj h
              exact x_iret dX11_does_90 rfl rfl (Nat.le_of_ble_eq_true rfl) rfl
def F_X11_copies_80 (s0 : Int32) (hi : Nat → Nat → Int32) (hl : Nat → Nat → Int64) (r : xRr) : Option (Int32 × xSt) := xbV (F_X1_keepMark hi hl r) (fun hi2 hl2 r2 => some (s0, hi2, hl2, r2))
set_option maxRecDepth 20000 in
set_option maxHeartbeats 2000000 in
theorem r_X11_copies_80 (s0 : Int32) (d1 : Option Value) (d2 : Option Value) (d3 : Option Value) (d4 : Option Value) (hi : Nat → Nat → Int32) (hl : Nat → Nat → Int64) (r : xRr) (o : Int32 × xSt) (h : F_X11_copies_80 s0 hi hl r = some o) : xR (RX11, cX11_copies, 5, false, 1) (8, 0, 0) z 0 0 80 [some (.ref 0), d1, d2, d3, d4] [.int s0] (xhp hi hl r) (xoI o) := by
  refine x_istore (pc' := 82) (L' := [some (.ref 0), d1, d2, (xcl d3), some (.int s0)]) dX11_copies_80 (Nat.le_of_ble_eq_true rfl) rfl rfl ?_
  refine x_aload_n (pc' := 83) dX11_copies_82 rfl rfl ?_
  refine x_getr (pc' := 86) (t := 41) dX11_copies_83 f_X11_62 (by decide) rfl rfl rfl rfl ?_
  refine xg_bV h (fun hi2 hl2 r2 e1 h => ?_)
  refine x_callV (pc' := 89) (S := []) (As := []) (b' := (1, 0, 0)) dX11_copies_86 l_X11_182 m_X1_keepMark rfl rfl (show 41 < 122 by decide) rfl (Nat.le_of_ble_eq_true rfl) (Nat.le_of_ble_eq_true rfl) (Nat.le_of_ble_eq_true rfl) (Nat.le_of_ble_eq_true rfl) (r_X1_keepMark _ _ _ _ e1) rfl ?_
  refine x_iload (pc' := 91) dX11_copies_89 rfl rfl ?_
  obtain rfl := Option.some.inj h
  exact x_iret dX11_copies_91 rfl rfl (Nat.le_of_ble_eq_true rfl) rfl
def F_X11_copies_77 (s1 : Int32) (s2 : Int32) (s3 : Int32) (hi : Nat → Nat → Int32) (hl : Nat → Nat → Int64) (r : xRr) : Option (Int32 × xSt) := xbI (F_X5_copyInOrder s1 s2 s3 hi hl r) (fun w2 hi2 hl2 r2 => F_X11_copies_80 w2 hi2 hl2 r2)
set_option maxRecDepth 20000 in
set_option maxHeartbeats 2000000 in
theorem r_X11_copies_77 (s1 : Int32) (s2 : Int32) (s3 : Int32) (d1 : Option Value) (d2 : Option Value) (d3 : Option Value) (d4 : Option Value) (hi : Nat → Nat → Int32) (hl : Nat → Nat → Int64) (r : xRr) (o : Int32 × xSt) (h : F_X11_copies_77 s1 s2 s3 hi hl r = some o) : xR (RX11, cX11_copies, 5, false, 1) (8, 0, 0) z 0 0 77 [some (.ref 0), d1, d2, d3, d4] [.int s3, .int s2, .int s1, .ref 14] (xhp hi hl r) (xoI o) := by
  refine xg_bI h (fun w2 hi2 hl2 r2 e1 h => ?_)
  refine x_callV (pc' := 80) (S := []) (As := [.int s1, .int s2, .int s3]) (b' := (7, 0, 0)) dX11_copies_77 l_X11_191 m_X5_copyInOrder rfl rfl (show 14 < 122 by decide) rfl (Nat.le_of_ble_eq_true rfl) (Nat.le_of_ble_eq_true rfl) (Nat.le_of_ble_eq_true rfl) (Nat.le_of_ble_eq_true rfl) (r_X5_copyInOrder _ _ _ _ _ _ _ e1) rfl ?_
  exact r_X11_copies_80 _ _ _ _ _ _ _ _ _ h
def F_X11_copies (v1 : Int32) (v2 : Int32) (v3 : Int32) (hi : Nat → Nat → Int32) (hl : Nat → Nat → Int64) (r : xRr) : Option (Int32 × xSt) := xbI (F_X8_has v1 hi hl r) (fun w2 hi2 hl2 r2 => if w2 = 0 then some (((-1) : Int32), hi2, hl2, r2) else xbI (F_X8_has v2 hi2 hl2 r2) (fun w5 hi5 hl5 r5 => if w5 = 0 then some (((-1) : Int32), hi5, hl5, r5) else xbP (F_X11_within v3 (0 : Int32) (2 : Int32)) (fun w8 => if w8 = 0 then some (((-1) : Int32), hi5, hl5, r5) else xbV (F_X1_mark hi5 hl5 r5) (fun hi11 hl11 r11 => if v3 = (2 : Int32) then xbI (F_X5_copyAtOnce v1 v2 hi11 hl11 r11) (fun w14 hi14 hl14 r14 => F_X11_copies_80 w14 hi14 hl14 r14) else if v3 = (1 : Int32) then F_X11_copies_77 v1 v2 (1 : Int32) hi11 hl11 r11 else F_X11_copies_77 v1 v2 (0 : Int32) hi11 hl11 r11))))
set_option maxRecDepth 20000 in
set_option maxHeartbeats 2000000 in
theorem r_X11_copies (v1 : Int32) (v2 : Int32) (v3 : Int32) (hi : Nat → Nat → Int32) (hl : Nat → Nat → Int64) (r : xRr) (o : Int32 × xSt) (h : F_X11_copies v1 v2 v3 hi hl r = some o) : xM yX11_copies cX11_copies 5 1 (8, 0, 0) z [.ref 0, .int v1, .int v2, .int v3] (xhp hi hl r) (xoI o) := by
  refine x_meth2 (C := RX11) (ini := false) (L := [some (.ref 0), some (.int v1), some (.int v2), some (.int v3), none]) rfl (by decide) (fun h9 => by cases h9) (by decide) (Nat.le_of_ble_eq_true rfl) rfl ?_
  refine x_aload_n (pc' := 1) dX11_copies_0 rfl rfl ?_
  refine x_getr (pc' := 4) (t := 6) dX11_copies_1 f_X11_21 (by decide) rfl rfl rfl rfl ?_
  refine x_iload_n (pc' := 5) dX11_copies_4 rfl rfl ?_
  refine xg_bI h (fun w2 hi2 hl2 r2 e1 h => ?_)
  refine x_callV (pc' := 8) (S := []) (As := [.int v1]) (b' := (0, 0, 0)) dX11_copies_5 l_X11_116 m_X8_has rfl rfl (show 6 < 122 by decide) rfl (Nat.le_of_ble_eq_true rfl) (Nat.le_of_ble_eq_true rfl) (Nat.le_of_ble_eq_true rfl) (Nat.le_of_ble_eq_true rfl) (r_X8_has _ _ _ _ _ e1) rfl ?_
  refine xg_ite h (fun g3 h => ?_) (fun g3 h => ?_)
  · refine x_if_eq (tgt := 31) (pc' := 11) dX11_copies_8 (by decide) rfl (fun _ => ?_) (fun hn => absurd g3 hn)
    refine x_iconst (pc' := 32) (x := (-1)) dX11_copies_31 (by decide) rfl ?_
    obtain rfl := Option.some.inj h
    exact x_iret dX11_copies_32 rfl rfl (Nat.le_of_ble_eq_true rfl) rfl
  · refine x_if_eq (tgt := 31) (pc' := 11) dX11_copies_8 (by decide) rfl (fun hn => absurd hn g3) (fun _ => ?_)
    refine x_aload_n (pc' := 12) dX11_copies_11 rfl rfl ?_
    refine x_getr (pc' := 15) (t := 6) dX11_copies_12 f_X11_21 (by decide) rfl rfl rfl rfl ?_
    refine x_iload_n (pc' := 16) dX11_copies_15 rfl rfl ?_
    refine xg_bI h (fun w5 hi5 hl5 r5 e4 h => ?_)
    refine x_callV (pc' := 19) (S := []) (As := [.int v2]) (b' := (0, 0, 0)) dX11_copies_16 l_X11_116 m_X8_has rfl rfl (show 6 < 122 by decide) rfl (Nat.le_of_ble_eq_true rfl) (Nat.le_of_ble_eq_true rfl) (Nat.le_of_ble_eq_true rfl) (Nat.le_of_ble_eq_true rfl) (r_X8_has _ _ _ _ _ e4) rfl ?_
    refine xg_ite h (fun g6 h => ?_) (fun g6 h => ?_)
    · refine x_if_eq (tgt := 31) (pc' := 22) dX11_copies_19 (by decide) rfl (fun _ => ?_) (fun hn => absurd g6 hn)
      refine x_iconst (pc' := 32) (x := (-1)) dX11_copies_31 (by decide) rfl ?_
      obtain rfl := Option.some.inj h
      exact x_iret dX11_copies_32 rfl rfl (Nat.le_of_ble_eq_true rfl) rfl
    · refine x_if_eq (tgt := 31) (pc' := 22) dX11_copies_19 (by decide) rfl (fun hn => absurd hn g6) (fun _ => ?_)
      refine x_iload_n (pc' := 23) dX11_copies_22 rfl rfl ?_
      refine x_iconst (pc' := 24) (x := 0) dX11_copies_23 (by decide) rfl ?_
      refine x_iconst (pc' := 25) (x := 2) dX11_copies_24 (by decide) rfl ?_
      refine xg_bP h (fun w8 e7 h => ?_)
      refine x_callS (pc' := 28) (S := []) (As := [.int v3, .int (0 : Int32), .int (2 : Int32)]) (b' := (0, 0, 0)) dX11_copies_25 l_X11_100 m_X11_within rfl rfl (Nat.le_of_ble_eq_true rfl) (Nat.le_of_ble_eq_true rfl) (Nat.le_of_ble_eq_true rfl) (Nat.le_of_ble_eq_true rfl) (r_X11_within _ _ _ _ _ e7) rfl ?_
      refine xg_ite h (fun g9 h => ?_) (fun g9 h => ?_)
      · refine x_if_ne (tgt := 33) (pc' := 31) dX11_copies_28 (by decide) rfl (fun hn => absurd g9 hn) (fun _ => ?_)
        refine x_iconst (pc' := 32) (x := (-1)) dX11_copies_31 (by decide) rfl ?_
        obtain rfl := Option.some.inj h
        exact x_iret dX11_copies_32 rfl rfl (Nat.le_of_ble_eq_true rfl) rfl
      · refine x_if_ne (tgt := 33) (pc' := 31) dX11_copies_28 (by decide) rfl (fun _ => ?_) (fun hn => absurd hn g9)
        refine x_aload_n (pc' := 34) dX11_copies_33 rfl rfl ?_
        refine x_getr (pc' := 37) (t := 41) dX11_copies_34 f_X11_62 (by decide) rfl rfl rfl rfl ?_
        refine x_aload_n (pc' := 38) dX11_copies_37 rfl rfl ?_
        refine x_getr (pc' := 41) (t := 1) dX11_copies_38 f_X11_12 (by decide) rfl rfl rfl rfl ?_
        refine xg_bV h (fun hi11 hl11 r11 e10 h => ?_)
        refine x_callV (pc' := 44) (S := []) (As := [.ref 1]) (b' := (2, 0, 0)) dX11_copies_41 l_X11_175 m_X1_mark rfl rfl (show 41 < 122 by decide) rfl (Nat.le_of_ble_eq_true rfl) (Nat.le_of_ble_eq_true rfl) (Nat.le_of_ble_eq_true rfl) (Nat.le_of_ble_eq_true rfl) (r_X1_mark _ _ _ _ e10) rfl ?_
        refine x_iload_n (pc' := 45) dX11_copies_44 rfl rfl ?_
        refine x_iconst (pc' := 46) (x := 2) dX11_copies_45 (by decide) rfl ?_
        refine xg_ite h (fun g12 h => ?_) (fun g12 h => ?_)
        · refine x_icmp_ne (tgt := 61) (pc' := 49) dX11_copies_46 (by decide) rfl (fun hn => absurd g12 hn) (fun _ => ?_)
          refine x_aload_n (pc' := 50) dX11_copies_49 rfl rfl ?_
          refine x_getr (pc' := 53) (t := 14) dX11_copies_50 f_X11_30 (by decide) rfl rfl rfl rfl ?_
          refine x_iload_n (pc' := 54) dX11_copies_53 rfl rfl ?_
          refine x_iload_n (pc' := 55) dX11_copies_54 rfl rfl ?_
          refine xg_bI h (fun w14 hi14 hl14 r14 e13 h => ?_)
          refine x_callV (pc' := 58) (S := []) (As := [.int v1, .int v2]) (b' := (5, 0, 0)) dX11_copies_55 l_X11_188 m_X5_copyAtOnce rfl rfl (show 14 < 122 by decide) rfl (Nat.le_of_ble_eq_true rfl) (Nat.le_of_ble_eq_true rfl) (Nat.le_of_ble_eq_true rfl) (Nat.le_of_ble_eq_true rfl) (r_X5_copyAtOnce _ _ _ _ _ _ e13) rfl ?_
          refine x_goto (tgt := 80) dX11_copies_58 (by decide) ?_
          exact r_X11_copies_80 _ _ _ _ _ _ _ _ _ h
        · refine x_icmp_ne (tgt := 61) (pc' := 49) dX11_copies_46 (by decide) rfl (fun _ => ?_) (fun hn => absurd hn g12)
          refine x_aload_n (pc' := 62) dX11_copies_61 rfl rfl ?_
          refine x_getr (pc' := 65) (t := 14) dX11_copies_62 f_X11_30 (by decide) rfl rfl rfl rfl ?_
          refine x_iload_n (pc' := 66) dX11_copies_65 rfl rfl ?_
          refine x_iload_n (pc' := 67) dX11_copies_66 rfl rfl ?_
          refine x_iload_n (pc' := 68) dX11_copies_67 rfl rfl ?_
          refine x_iconst (pc' := 69) (x := 1) dX11_copies_68 (by decide) rfl ?_
          refine xg_ite h (fun g15 h => ?_) (fun g15 h => ?_)
          · refine x_icmp_ne (tgt := 76) (pc' := 72) dX11_copies_69 (by decide) rfl (fun hn => absurd g15 hn) (fun _ => ?_)
            refine x_iconst (pc' := 73) (x := 1) dX11_copies_72 (by decide) rfl ?_
            refine x_goto (tgt := 77) dX11_copies_73 (by decide) ?_
            exact r_X11_copies_77 _ _ _ _ _ _ _ _ _ _ _ h
          · refine x_icmp_ne (tgt := 76) (pc' := 72) dX11_copies_69 (by decide) rfl (fun _ => ?_) (fun hn => absurd hn g15)
            refine x_iconst (pc' := 77) (x := 0) dX11_copies_76 (by decide) rfl ?_
            exact r_X11_copies_77 _ _ _ _ _ _ _ _ _ _ _ h
def F_X11_undo (hi : Nat → Nat → Int32) (hl : Nat → Nat → Int64) (r : xRr) : Option (Int32 × xSt) := if (hi 41 3) = 0 then some (((-2) : Int32), hi, hl, r) else xbV (F_X1_stepBack hi hl r) (fun hi3 hl3 r3 => some ((hi3 41 3), hi3, hl3, r3))
set_option maxRecDepth 20000 in
set_option maxHeartbeats 2000000 in
theorem r_X11_undo (hi : Nat → Nat → Int32) (hl : Nat → Nat → Int64) (r : xRr) (o : Int32 × xSt) (h : F_X11_undo hi hl r = some o) : xM yX11_undo cX11_undo 1 1 (3, 0, 0) z [.ref 0] (xhp hi hl r) (xoI o) := by
  refine x_meth2 (C := RX11) (ini := false) (L := [some (.ref 0)]) rfl (by decide) (fun h9 => by cases h9) (by decide) (Nat.le_of_ble_eq_true rfl) rfl ?_
  refine x_aload_n (pc' := 1) dX11_undo_0 rfl rfl ?_
  refine x_getr (pc' := 4) (t := 41) dX11_undo_1 f_X11_62 (by decide) rfl rfl rfl rfl ?_
  refine x_geti (pc' := 7) dX11_undo_4 f_X11_195 (by decide) rfl rfl rfl ?_
  refine xg_ite h (fun g1 h => ?_) (fun g1 h => ?_)
  · refine x_if_ne (tgt := 13) (pc' := 10) dX11_undo_7 (by decide) rfl (fun hn => absurd g1 hn) (fun _ => ?_)
    refine x_bipush (pc' := 12) (x := (-2)) dX11_undo_10 (by decide) rfl ?_
    obtain rfl := Option.some.inj h
    exact x_iret dX11_undo_12 rfl rfl (Nat.le_of_ble_eq_true rfl) rfl
  · refine x_if_ne (tgt := 13) (pc' := 10) dX11_undo_7 (by decide) rfl (fun _ => ?_) (fun hn => absurd hn g1)
    refine x_aload_n (pc' := 14) dX11_undo_13 rfl rfl ?_
    refine x_getr (pc' := 17) (t := 41) dX11_undo_14 f_X11_62 (by decide) rfl rfl rfl rfl ?_
    refine x_aload_n (pc' := 18) dX11_undo_17 rfl rfl ?_
    refine x_getr (pc' := 21) (t := 1) dX11_undo_18 f_X11_12 (by decide) rfl rfl rfl rfl ?_
    refine xg_bV h (fun hi3 hl3 r3 e2 h => ?_)
    refine x_callV (pc' := 24) (S := []) (As := [.ref 1]) (b' := (2, 0, 0)) dX11_undo_21 l_X11_198 m_X1_stepBack rfl rfl (show 41 < 122 by decide) rfl (Nat.le_of_ble_eq_true rfl) (Nat.le_of_ble_eq_true rfl) (Nat.le_of_ble_eq_true rfl) (Nat.le_of_ble_eq_true rfl) (r_X1_stepBack _ _ _ _ e2) rfl ?_
    refine x_aload_n (pc' := 25) dX11_undo_24 rfl rfl ?_
    refine x_getr (pc' := 28) (t := 41) dX11_undo_25 f_X11_62 (by decide) rfl rfl rfl rfl ?_
    refine x_geti (pc' := 31) dX11_undo_28 f_X11_195 (by decide) rfl rfl rfl ?_
    obtain rfl := Option.some.inj h
    exact x_iret dX11_undo_31 rfl rfl (Nat.le_of_ble_eq_true rfl) rfl
def F_X11_isLine (v1 : Int32) (v2 : Int32) (v3 : Int32) (v4 : Int32) (v5 : Int32) (hi : Nat → Nat → Int32) (hl : Nat → Nat → Int64) (r : xRr) : Option (Int32 × xSt) := if v1 = (5 : Int32) then xbP (F_X11_within v2 (0 : Int32) (9 : Int32)) (fun w3 => if w3 = 0 ∨ w3 = 1 then some (w3, hi, hl, r) else none) else if v1 = (6 : Int32) then some ((1 : Int32), hi, hl, r) else xbP (F_X11_within v1 (0 : Int32) (4 : Int32)) (fun w7 => if w7 = 0 then some ((0 : Int32), hi, hl, r) else xbI (F_X8_has v2 hi hl r) (fun w10 hi10 hl10 r10 => if w10 = 0 then some ((0 : Int32), hi10, hl10, r10) else xbI (F_X8_has v4 hi10 hl10 r10) (fun w13 hi13 hl13 r13 => if w13 = 0 then some ((0 : Int32), hi13, hl13, r13) else xbP (F_X11_within v3 (0 : Int32) (13 : Int32)) (fun w16 => if w16 = 0 then some ((0 : Int32), hi13, hl13, r13) else xbP (F_X11_within v5 (0 : Int32) (13 : Int32)) (fun w19 => if w19 = 0 then some ((0 : Int32), hi13, hl13, r13) else some ((1 : Int32), hi13, hl13, r13))))))
set_option maxRecDepth 20000 in
set_option maxHeartbeats 2000000 in
theorem r_X11_isLine (v1 : Int32) (v2 : Int32) (v3 : Int32) (v4 : Int32) (v5 : Int32) (hi : Nat → Nat → Int32) (hl : Nat → Nat → Int64) (r : xRr) (o : Int32 × xSt) (h : F_X11_isLine v1 v2 v3 v4 v5 hi hl r = some o) : xM yX11_isLine cX11_isLine 6 3 (1, 0, 0) z [.ref 0, .int v1, .int v2, .int v3, .int v4, .int v5] (xhp hi hl r) (xoI o) := by
  refine x_meth2 (C := RX11) (ini := false) (L := [some (.ref 0), some (.int v1), some (.int v2), some (.int v3), some (.int v4), some (.int v5)]) rfl (by decide) (fun h9 => by cases h9) (by decide) (Nat.le_of_ble_eq_true rfl) rfl ?_
  refine x_iload_n (pc' := 1) dX11_isLine_0 rfl rfl ?_
  refine x_iconst (pc' := 2) (x := 5) dX11_isLine_1 (by decide) rfl ?_
  refine xg_ite h (fun g1 h => ?_) (fun g1 h => ?_)
  · refine x_icmp_ne (tgt := 13) (pc' := 5) dX11_isLine_2 (by decide) rfl (fun hn => absurd g1 hn) (fun _ => ?_)
    refine x_iload_n (pc' := 6) dX11_isLine_5 rfl rfl ?_
    refine x_iconst (pc' := 7) (x := 0) dX11_isLine_6 (by decide) rfl ?_
    refine x_bipush (pc' := 9) (x := 9) dX11_isLine_7 (by decide) rfl ?_
    refine xg_bP h (fun w3 e2 h => ?_)
    refine x_callS (pc' := 12) (S := []) (As := [.int v2, .int (0 : Int32), .int (9 : Int32)]) (b' := (0, 0, 0)) dX11_isLine_9 l_X11_100 m_X11_within rfl rfl (Nat.le_of_ble_eq_true rfl) (Nat.le_of_ble_eq_true rfl) (Nat.le_of_ble_eq_true rfl) (Nat.le_of_ble_eq_true rfl) (r_X11_within _ _ _ _ _ e2) rfl ?_
    refine xg_or h (fun g4 h => ?_)
    obtain rfl := Option.some.inj h
    exact x_zret dX11_isLine_12 rfl g4 rfl (Nat.le_of_ble_eq_true rfl) rfl
  · refine x_icmp_ne (tgt := 13) (pc' := 5) dX11_isLine_2 (by decide) rfl (fun _ => ?_) (fun hn => absurd hn g1)
    refine x_iload_n (pc' := 14) dX11_isLine_13 rfl rfl ?_
    refine x_bipush (pc' := 16) (x := 6) dX11_isLine_14 (by decide) rfl ?_
    refine xg_ite h (fun g5 h => ?_) (fun g5 h => ?_)
    · refine x_icmp_ne (tgt := 21) (pc' := 19) dX11_isLine_16 (by decide) rfl (fun hn => absurd g5 hn) (fun _ => ?_)
      refine x_iconst (pc' := 20) (x := 1) dX11_isLine_19 (by decide) rfl ?_
      obtain rfl := Option.some.inj h
      exact x_zret dX11_isLine_20 rfl (Or.inr rfl) rfl (Nat.le_of_ble_eq_true rfl) rfl
    · refine x_icmp_ne (tgt := 21) (pc' := 19) dX11_isLine_16 (by decide) rfl (fun _ => ?_) (fun hn => absurd hn g5)
      refine x_iload_n (pc' := 22) dX11_isLine_21 rfl rfl ?_
      refine x_iconst (pc' := 23) (x := 0) dX11_isLine_22 (by decide) rfl ?_
      refine x_iconst (pc' := 24) (x := 4) dX11_isLine_23 (by decide) rfl ?_
      refine xg_bP h (fun w7 e6 h => ?_)
      refine x_callS (pc' := 27) (S := []) (As := [.int v1, .int (0 : Int32), .int (4 : Int32)]) (b' := (0, 0, 0)) dX11_isLine_24 l_X11_100 m_X11_within rfl rfl (Nat.le_of_ble_eq_true rfl) (Nat.le_of_ble_eq_true rfl) (Nat.le_of_ble_eq_true rfl) (Nat.le_of_ble_eq_true rfl) (r_X11_within _ _ _ _ _ e6) rfl ?_
      refine xg_ite h (fun g8 h => ?_) (fun g8 h => ?_)
      · refine x_if_eq (tgt := 78) (pc' := 30) dX11_isLine_27 (by decide) rfl (fun _ => ?_) (fun hn => absurd g8 hn)
        refine x_iconst (pc' := 79) (x := 0) dX11_isLine_78 (by decide) rfl ?_
        obtain rfl := Option.some.inj h
        exact x_zret dX11_isLine_79 rfl (Or.inl rfl) rfl (Nat.le_of_ble_eq_true rfl) rfl
      · refine x_if_eq (tgt := 78) (pc' := 30) dX11_isLine_27 (by decide) rfl (fun hn => absurd hn g8) (fun _ => ?_)
        refine x_aload_n (pc' := 31) dX11_isLine_30 rfl rfl ?_
        refine x_getr (pc' := 34) (t := 6) dX11_isLine_31 f_X11_21 (by decide) rfl rfl rfl rfl ?_
        refine x_iload_n (pc' := 35) dX11_isLine_34 rfl rfl ?_
        refine xg_bI h (fun w10 hi10 hl10 r10 e9 h => ?_)
        refine x_callV (pc' := 38) (S := []) (As := [.int v2]) (b' := (0, 0, 0)) dX11_isLine_35 l_X11_116 m_X8_has rfl rfl (show 6 < 122 by decide) rfl (Nat.le_of_ble_eq_true rfl) (Nat.le_of_ble_eq_true rfl) (Nat.le_of_ble_eq_true rfl) (Nat.le_of_ble_eq_true rfl) (r_X8_has _ _ _ _ _ e9) rfl ?_
        refine xg_ite h (fun g11 h => ?_) (fun g11 h => ?_)
        · refine x_if_eq (tgt := 78) (pc' := 41) dX11_isLine_38 (by decide) rfl (fun _ => ?_) (fun hn => absurd g11 hn)
          refine x_iconst (pc' := 79) (x := 0) dX11_isLine_78 (by decide) rfl ?_
          obtain rfl := Option.some.inj h
          exact x_zret dX11_isLine_79 rfl (Or.inl rfl) rfl (Nat.le_of_ble_eq_true rfl) rfl
        · refine x_if_eq (tgt := 78) (pc' := 41) dX11_isLine_38 (by decide) rfl (fun hn => absurd hn g11) (fun _ => ?_)
          refine x_aload_n (pc' := 42) dX11_isLine_41 rfl rfl ?_
          refine x_getr (pc' := 45) (t := 6) dX11_isLine_42 f_X11_21 (by decide) rfl rfl rfl rfl ?_
          refine x_iload (pc' := 47) dX11_isLine_45 rfl rfl ?_
          refine xg_bI h (fun w13 hi13 hl13 r13 e12 h => ?_)
          refine x_callV (pc' := 50) (S := []) (As := [.int v4]) (b' := (0, 0, 0)) dX11_isLine_47 l_X11_116 m_X8_has rfl rfl (show 6 < 122 by decide) rfl (Nat.le_of_ble_eq_true rfl) (Nat.le_of_ble_eq_true rfl) (Nat.le_of_ble_eq_true rfl) (Nat.le_of_ble_eq_true rfl) (r_X8_has _ _ _ _ _ e12) rfl ?_
          refine xg_ite h (fun g14 h => ?_) (fun g14 h => ?_)
          · refine x_if_eq (tgt := 78) (pc' := 53) dX11_isLine_50 (by decide) rfl (fun _ => ?_) (fun hn => absurd g14 hn)
            refine x_iconst (pc' := 79) (x := 0) dX11_isLine_78 (by decide) rfl ?_
            obtain rfl := Option.some.inj h
            exact x_zret dX11_isLine_79 rfl (Or.inl rfl) rfl (Nat.le_of_ble_eq_true rfl) rfl
          · refine x_if_eq (tgt := 78) (pc' := 53) dX11_isLine_50 (by decide) rfl (fun hn => absurd hn g14) (fun _ => ?_)
            refine x_iload_n (pc' := 54) dX11_isLine_53 rfl rfl ?_
            refine x_iconst (pc' := 55) (x := 0) dX11_isLine_54 (by decide) rfl ?_
            refine x_bipush (pc' := 57) (x := 13) dX11_isLine_55 (by decide) rfl ?_
            refine xg_bP h (fun w16 e15 h => ?_)
            refine x_callS (pc' := 60) (S := []) (As := [.int v3, .int (0 : Int32), .int (13 : Int32)]) (b' := (0, 0, 0)) dX11_isLine_57 l_X11_100 m_X11_within rfl rfl (Nat.le_of_ble_eq_true rfl) (Nat.le_of_ble_eq_true rfl) (Nat.le_of_ble_eq_true rfl) (Nat.le_of_ble_eq_true rfl) (r_X11_within _ _ _ _ _ e15) rfl ?_
            refine xg_ite h (fun g17 h => ?_) (fun g17 h => ?_)
            · refine x_if_eq (tgt := 78) (pc' := 63) dX11_isLine_60 (by decide) rfl (fun _ => ?_) (fun hn => absurd g17 hn)
              refine x_iconst (pc' := 79) (x := 0) dX11_isLine_78 (by decide) rfl ?_
              obtain rfl := Option.some.inj h
              exact x_zret dX11_isLine_79 rfl (Or.inl rfl) rfl (Nat.le_of_ble_eq_true rfl) rfl
            · refine x_if_eq (tgt := 78) (pc' := 63) dX11_isLine_60 (by decide) rfl (fun hn => absurd hn g17) (fun _ => ?_)
              refine x_iload (pc' := 65) dX11_isLine_63 rfl rfl ?_
              refine x_iconst (pc' := 66) (x := 0) dX11_isLine_65 (by decide) rfl ?_
              refine x_bipush (pc' := 68) (x := 13) dX11_isLine_66 (by decide) rfl ?_
              refine xg_bP h (fun w19 e18 h => ?_)
              refine x_callS (pc' := 71) (S := []) (As := [.int v5, .int (0 : Int32), .int (13 : Int32)]) (b' := (0, 0, 0)) dX11_isLine_68 l_X11_100 m_X11_within rfl rfl (Nat.le_of_ble_eq_true rfl) (Nat.le_of_ble_eq_true rfl) (Nat.le_of_ble_eq_true rfl) (Nat.le_of_ble_eq_true rfl) (r_X11_within _ _ _ _ _ e18) rfl ?_
              refine xg_ite h (fun g20 h => ?_) (fun g20 h => ?_)
              · refine x_if_eq (tgt := 78) (pc' := 74) dX11_isLine_71 (by decide) rfl (fun _ => ?_) (fun hn => absurd g20 hn)
                refine x_iconst (pc' := 79) (x := 0) dX11_isLine_78 (by decide) rfl ?_
                obtain rfl := Option.some.inj h
                exact x_zret dX11_isLine_79 rfl (Or.inl rfl) rfl (Nat.le_of_ble_eq_true rfl) rfl
              · refine x_if_eq (tgt := 78) (pc' := 74) dX11_isLine_71 (by decide) rfl (fun hn => absurd hn g20) (fun _ => ?_)
                refine x_iconst (pc' := 75) (x := 1) dX11_isLine_74 (by decide) rfl ?_
                refine x_goto (tgt := 79) dX11_isLine_75 (by decide) ?_
                obtain rfl := Option.some.inj h
                exact x_zret dX11_isLine_79 rfl (Or.inr rfl) rfl (Nat.le_of_ble_eq_true rfl) rfl
def F_X11_plans_101 (s1 : Int32) (s2 : Int32) (hi : Nat → Nat → Int32) (hl : Nat → Nat → Int64) (r : xRr) : Option (Int32 × xSt) := xbI (F_X4_append s1 s2 (0 : Int32) (0 : Int32) (0 : Int32) hi hl r) (fun w2 hi2 hl2 r2 => some (w2, hi2, hl2, r2))
set_option maxRecDepth 20000 in
set_option maxHeartbeats 2000000 in
theorem r_X11_plans_101 (s1 : Int32) (s2 : Int32) (d1 : Option Value) (d2 : Option Value) (d3 : Option Value) (d4 : Option Value) (d5 : Option Value) (hi : Nat → Nat → Int32) (hl : Nat → Nat → Int64) (r : xRr) (o : Int32 × xSt) (h : F_X11_plans_101 s1 s2 hi hl r = some o) : xR (RX11, cX11_plans, 6, false, 1) (2, 0, 0) z 0 0 101 [some (.ref 0), d1, d2, d3, d4, d5] [.int s2, .int s1, .ref 30] (xhp hi hl r) (xoI o) := by
  refine x_iconst (pc' := 102) (x := 0) dX11_plans_101 (by decide) rfl ?_
  refine x_iconst (pc' := 103) (x := 0) dX11_plans_102 (by decide) rfl ?_
  refine x_iconst (pc' := 104) (x := 0) dX11_plans_103 (by decide) rfl ?_
  refine xg_bI h (fun w2 hi2 hl2 r2 e1 h => ?_)
  refine x_callV (pc' := 107) (S := []) (As := [.int s1, .int s2, .int (0 : Int32), .int (0 : Int32), .int (0 : Int32)]) (b' := (1, 0, 0)) dX11_plans_104 l_X11_211 m_X4_append rfl rfl (show 30 < 122 by decide) rfl (Nat.le_of_ble_eq_true rfl) (Nat.le_of_ble_eq_true rfl) (Nat.le_of_ble_eq_true rfl) (Nat.le_of_ble_eq_true rfl) (r_X4_append _ _ _ _ _ _ _ _ _ e1) rfl ?_
  obtain rfl := Option.some.inj h
  exact x_iret dX11_plans_107 rfl rfl (Nat.le_of_ble_eq_true rfl) rfl
def F_X11_plans_66 (v1 : Int32) (v2 : Int32) (v3 : Int32) (v4 : Int32) (v5 : Int32) (hi : Nat → Nat → Int32) (hl : Nat → Nat → Int64) (r : xRr) : Option (Int32 × xSt) := if (5 : Int32) ≤ v1 then if v1 = (5 : Int32) then F_X11_plans_101 v1 v2 hi hl r else F_X11_plans_101 v1 (0 : Int32) hi hl r else xbI (F_X4_append v1 v2 v3 v4 v5 hi hl r) (fun w4 hi4 hl4 r4 => some (w4, hi4, hl4, r4))
set_option maxRecDepth 20000 in
set_option maxHeartbeats 2000000 in
theorem r_X11_plans_66 (v1 : Int32) (v2 : Int32) (v3 : Int32) (v4 : Int32) (v5 : Int32) (hi : Nat → Nat → Int32) (hl : Nat → Nat → Int64) (r : xRr) (o : Int32 × xSt) (h : F_X11_plans_66 v1 v2 v3 v4 v5 hi hl r = some o) : xR (RX11, cX11_plans, 6, false, 1) (2, 0, 0) z 0 0 66 [some (.ref 0), some (.int v1), some (.int v2), some (.int v3), some (.int v4), some (.int v5)] [] (xhp hi hl r) (xoI o) := by
  refine x_iload_n (pc' := 67) dX11_plans_66 rfl rfl ?_
  refine x_iconst (pc' := 68) (x := 5) dX11_plans_67 (by decide) rfl ?_
  refine xg_ite h (fun g1 h => ?_) (fun g1 h => ?_)
  · refine x_icmp_ge (tgt := 86) (pc' := 71) dX11_plans_68 (by decide) rfl (fun _ => ?_) (fun hn => absurd g1 hn)
    refine x_aload_n (pc' := 87) dX11_plans_86 rfl rfl ?_
    refine x_getr (pc' := 90) (t := 30) dX11_plans_87 f_X11_37 (by decide) rfl rfl rfl rfl ?_
    refine x_iload_n (pc' := 91) dX11_plans_90 rfl rfl ?_
    refine x_iload_n (pc' := 92) dX11_plans_91 rfl rfl ?_
    refine x_iconst (pc' := 93) (x := 5) dX11_plans_92 (by decide) rfl ?_
    refine xg_ite h (fun g2 h => ?_) (fun g2 h => ?_)
    · refine x_icmp_ne (tgt := 100) (pc' := 96) dX11_plans_93 (by decide) rfl (fun hn => absurd g2 hn) (fun _ => ?_)
      refine x_iload_n (pc' := 97) dX11_plans_96 rfl rfl ?_
      refine x_goto (tgt := 101) dX11_plans_97 (by decide) ?_
      exact r_X11_plans_101 _ _ _ _ _ _ _ _ _ _ _ h
    · refine x_icmp_ne (tgt := 100) (pc' := 96) dX11_plans_93 (by decide) rfl (fun _ => ?_) (fun hn => absurd hn g2)
      refine x_iconst (pc' := 101) (x := 0) dX11_plans_100 (by decide) rfl ?_
      exact r_X11_plans_101 _ _ _ _ _ _ _ _ _ _ _ h
  · refine x_icmp_ge (tgt := 86) (pc' := 71) dX11_plans_68 (by decide) rfl (fun hn => absurd hn g1) (fun _ => ?_)
    refine x_aload_n (pc' := 72) dX11_plans_71 rfl rfl ?_
    refine x_getr (pc' := 75) (t := 30) dX11_plans_72 f_X11_37 (by decide) rfl rfl rfl rfl ?_
    refine x_iload_n (pc' := 76) dX11_plans_75 rfl rfl ?_
    refine x_iload_n (pc' := 77) dX11_plans_76 rfl rfl ?_
    refine x_iload_n (pc' := 78) dX11_plans_77 rfl rfl ?_
    refine x_iload (pc' := 80) dX11_plans_78 rfl rfl ?_
    refine x_iload (pc' := 82) dX11_plans_80 rfl rfl ?_
    refine xg_bI h (fun w4 hi4 hl4 r4 e3 h => ?_)
    refine x_callV (pc' := 85) (S := []) (As := [.int v1, .int v2, .int v3, .int v4, .int v5]) (b' := (1, 0, 0)) dX11_plans_82 l_X11_211 m_X4_append rfl rfl (show 30 < 122 by decide) rfl (Nat.le_of_ble_eq_true rfl) (Nat.le_of_ble_eq_true rfl) (Nat.le_of_ble_eq_true rfl) (Nat.le_of_ble_eq_true rfl) (r_X4_append _ _ _ _ _ _ _ _ _ e3) rfl ?_
    obtain rfl := Option.some.inj h
    exact x_iret dX11_plans_85 rfl rfl (Nat.le_of_ble_eq_true rfl) rfl
def F_X11_plans_35 (v1 : Int32) (v2 : Int32) (v3 : Int32) (v4 : Int32) (v5 : Int32) (hi : Nat → Nat → Int32) (hl : Nat → Nat → Int64) (r : xRr) : Option (Int32 × xSt) := if (hi 30 2) = (16 : Int32) then some (((-3) : Int32), hi, hl, r) else if v1 = (5 : Int32) then if (hi 30 3) = (3 : Int32) then some (((-3) : Int32), hi, hl, r) else F_X11_plans_66 v1 v2 v3 v4 v5 hi hl r else F_X11_plans_66 v1 v2 v3 v4 v5 hi hl r
set_option maxRecDepth 20000 in
set_option maxHeartbeats 2000000 in
theorem r_X11_plans_35 (v1 : Int32) (v2 : Int32) (v3 : Int32) (v4 : Int32) (v5 : Int32) (hi : Nat → Nat → Int32) (hl : Nat → Nat → Int64) (r : xRr) (o : Int32 × xSt) (h : F_X11_plans_35 v1 v2 v3 v4 v5 hi hl r = some o) : xR (RX11, cX11_plans, 6, false, 1) (2, 0, 0) z 0 0 35 [some (.ref 0), some (.int v1), some (.int v2), some (.int v3), some (.int v4), some (.int v5)] [] (xhp hi hl r) (xoI o) := by
  refine x_aload_n (pc' := 36) dX11_plans_35 rfl rfl ?_
  refine x_getr (pc' := 39) (t := 30) dX11_plans_36 f_X11_37 (by decide) rfl rfl rfl rfl ?_
  refine x_geti (pc' := 42) dX11_plans_39 f_X11_208 (by decide) rfl rfl rfl ?_
  refine x_bipush (pc' := 44) (x := 16) dX11_plans_42 (by decide) rfl ?_
  refine xg_ite h (fun g1 h => ?_) (fun g1 h => ?_)
  · refine x_icmp_eq (tgt := 63) (pc' := 47) dX11_plans_44 (by decide) rfl (fun _ => ?_) (fun hn => absurd g1 hn)
    refine x_bipush (pc' := 65) (x := (-3)) dX11_plans_63 (by decide) rfl ?_
    obtain rfl := Option.some.inj h
    exact x_iret dX11_plans_65 rfl rfl (Nat.le_of_ble_eq_true rfl) rfl
  · refine x_icmp_eq (tgt := 63) (pc' := 47) dX11_plans_44 (by decide) rfl (fun hn => absurd hn g1) (fun _ => ?_)
    refine x_iload_n (pc' := 48) dX11_plans_47 rfl rfl ?_
    refine x_iconst (pc' := 49) (x := 5) dX11_plans_48 (by decide) rfl ?_
    refine xg_ite h (fun g2 h => ?_) (fun g2 h => ?_)
    · refine x_icmp_ne (tgt := 66) (pc' := 52) dX11_plans_49 (by decide) rfl (fun hn => absurd g2 hn) (fun _ => ?_)
      refine x_aload_n (pc' := 53) dX11_plans_52 rfl rfl ?_
      refine x_getr (pc' := 56) (t := 30) dX11_plans_53 f_X11_37 (by decide) rfl rfl rfl rfl ?_
      refine x_geti (pc' := 59) dX11_plans_56 f_X11_205 (by decide) rfl rfl rfl ?_
      refine x_iconst (pc' := 60) (x := 3) dX11_plans_59 (by decide) rfl ?_
      refine xg_ite h (fun g3 h => ?_) (fun g3 h => ?_)
      · refine x_icmp_ne (tgt := 66) (pc' := 63) dX11_plans_60 (by decide) rfl (fun hn => absurd g3 hn) (fun _ => ?_)
        refine x_bipush (pc' := 65) (x := (-3)) dX11_plans_63 (by decide) rfl ?_
        obtain rfl := Option.some.inj h
        exact x_iret dX11_plans_65 rfl rfl (Nat.le_of_ble_eq_true rfl) rfl
      · refine x_icmp_ne (tgt := 66) (pc' := 63) dX11_plans_60 (by decide) rfl (fun _ => ?_) (fun hn => absurd hn g3)
        exact r_X11_plans_66 _ _ _ _ _ _ _ _ _ h
    · refine x_icmp_ne (tgt := 66) (pc' := 52) dX11_plans_49 (by decide) rfl (fun _ => ?_) (fun hn => absurd hn g2)
      exact r_X11_plans_66 _ _ _ _ _ _ _ _ _ h
def F_X11_plans (v1 : Int32) (v2 : Int32) (v3 : Int32) (v4 : Int32) (v5 : Int32) (hi : Nat → Nat → Int32) (hl : Nat → Nat → Int64) (r : xRr) : Option (Int32 × xSt) := xbI (F_X11_isLine v1 v2 v3 v4 v5 hi hl r) (fun w2 hi2 hl2 r2 => if w2 = 0 then some (((-1) : Int32), hi2, hl2, r2) else if v1 = (6 : Int32) then if (hi2 30 3) = 0 then some (((-2) : Int32), hi2, hl2, r2) else F_X11_plans_35 v1 v2 v3 v4 v5 hi2 hl2 r2 else F_X11_plans_35 v1 v2 v3 v4 v5 hi2 hl2 r2)
set_option maxRecDepth 20000 in
set_option maxHeartbeats 2000000 in
theorem r_X11_plans (v1 : Int32) (v2 : Int32) (v3 : Int32) (v4 : Int32) (v5 : Int32) (hi : Nat → Nat → Int32) (hl : Nat → Nat → Int64) (r : xRr) (o : Int32 × xSt) (h : F_X11_plans v1 v2 v3 v4 v5 hi hl r = some o) : xM yX11_plans cX11_plans 6 1 (2, 0, 0) z [.ref 0, .int v1, .int v2, .int v3, .int v4, .int v5] (xhp hi hl r) (xoI o) := by
  refine x_meth2 (C := RX11) (ini := false) (L := [some (.ref 0), some (.int v1), some (.int v2), some (.int v3), some (.int v4), some (.int v5)]) rfl (by decide) (fun h9 => by cases h9) (by decide) (Nat.le_of_ble_eq_true rfl) rfl ?_
  refine x_aload_n (pc' := 1) dX11_plans_0 rfl rfl ?_
  refine x_iload_n (pc' := 2) dX11_plans_1 rfl rfl ?_
  refine x_iload_n (pc' := 3) dX11_plans_2 rfl rfl ?_
  refine x_iload_n (pc' := 4) dX11_plans_3 rfl rfl ?_
  refine x_iload (pc' := 6) dX11_plans_4 rfl rfl ?_
  refine x_iload (pc' := 8) dX11_plans_6 rfl rfl ?_
  refine xg_bI h (fun w2 hi2 hl2 r2 e1 h => ?_)
  refine x_callV (pc' := 11) (S := []) (As := [.int v1, .int v2, .int v3, .int v4, .int v5]) (b' := (1, 0, 0)) dX11_plans_8 l_X11_201 m_X11_isLine rfl rfl (show 0 < 122 by decide) rfl (Nat.le_of_ble_eq_true rfl) (Nat.le_of_ble_eq_true rfl) (Nat.le_of_ble_eq_true rfl) (Nat.le_of_ble_eq_true rfl) (r_X11_isLine _ _ _ _ _ _ _ _ _ e1) rfl ?_
  refine xg_ite h (fun g3 h => ?_) (fun g3 h => ?_)
  · refine x_if_ne (tgt := 16) (pc' := 14) dX11_plans_11 (by decide) rfl (fun hn => absurd g3 hn) (fun _ => ?_)
    refine x_iconst (pc' := 15) (x := (-1)) dX11_plans_14 (by decide) rfl ?_
    obtain rfl := Option.some.inj h
    exact x_iret dX11_plans_15 rfl rfl (Nat.le_of_ble_eq_true rfl) rfl
  · refine x_if_ne (tgt := 16) (pc' := 14) dX11_plans_11 (by decide) rfl (fun _ => ?_) (fun hn => absurd hn g3)
    refine x_iload_n (pc' := 17) dX11_plans_16 rfl rfl ?_
    refine x_bipush (pc' := 19) (x := 6) dX11_plans_17 (by decide) rfl ?_
    refine xg_ite h (fun g4 h => ?_) (fun g4 h => ?_)
    · refine x_icmp_ne (tgt := 35) (pc' := 22) dX11_plans_19 (by decide) rfl (fun hn => absurd g4 hn) (fun _ => ?_)
      refine x_aload_n (pc' := 23) dX11_plans_22 rfl rfl ?_
      refine x_getr (pc' := 26) (t := 30) dX11_plans_23 f_X11_37 (by decide) rfl rfl rfl rfl ?_
      refine x_geti (pc' := 29) dX11_plans_26 f_X11_205 (by decide) rfl rfl rfl ?_
      refine xg_ite h (fun g5 h => ?_) (fun g5 h => ?_)
      · refine x_if_ne (tgt := 35) (pc' := 32) dX11_plans_29 (by decide) rfl (fun hn => absurd g5 hn) (fun _ => ?_)
        refine x_bipush (pc' := 34) (x := (-2)) dX11_plans_32 (by decide) rfl ?_
        obtain rfl := Option.some.inj h
        exact x_iret dX11_plans_34 rfl rfl (Nat.le_of_ble_eq_true rfl) rfl
      · refine x_if_ne (tgt := 35) (pc' := 32) dX11_plans_29 (by decide) rfl (fun _ => ?_) (fun hn => absurd hn g5)
        exact r_X11_plans_35 _ _ _ _ _ _ _ _ _ h
    · refine x_icmp_ne (tgt := 35) (pc' := 22) dX11_plans_19 (by decide) rfl (fun _ => ?_) (fun hn => absurd hn g4)
      exact r_X11_plans_35 _ _ _ _ _ _ _ _ _ h
def F_X11_drops (hi : Nat → Nat → Int32) (hl : Nat → Nat → Int64) (r : xRr) : Option (Int32 × xSt) := if (hi 30 2) = 0 then some (((-2) : Int32), hi, hl, r) else xbI (F_X4_dropLast hi hl r) (fun w3 hi3 hl3 r3 => some (w3, hi3, hl3, r3))
set_option maxRecDepth 20000 in
set_option maxHeartbeats 2000000 in
theorem r_X11_drops (hi : Nat → Nat → Int32) (hl : Nat → Nat → Int64) (r : xRr) (o : Int32 × xSt) (h : F_X11_drops hi hl r = some o) : xM yX11_drops cX11_drops 1 1 (2, 0, 0) z [.ref 0] (xhp hi hl r) (xoI o) := by
  refine x_meth2 (C := RX11) (ini := false) (L := [some (.ref 0)]) rfl (by decide) (fun h9 => by cases h9) (by decide) (Nat.le_of_ble_eq_true rfl) rfl ?_
  refine x_aload_n (pc' := 1) dX11_drops_0 rfl rfl ?_
  refine x_getr (pc' := 4) (t := 30) dX11_drops_1 f_X11_37 (by decide) rfl rfl rfl rfl ?_
  refine x_geti (pc' := 7) dX11_drops_4 f_X11_208 (by decide) rfl rfl rfl ?_
  refine xg_ite h (fun g1 h => ?_) (fun g1 h => ?_)
  · refine x_if_ne (tgt := 13) (pc' := 10) dX11_drops_7 (by decide) rfl (fun hn => absurd g1 hn) (fun _ => ?_)
    refine x_bipush (pc' := 12) (x := (-2)) dX11_drops_10 (by decide) rfl ?_
    obtain rfl := Option.some.inj h
    exact x_iret dX11_drops_12 rfl rfl (Nat.le_of_ble_eq_true rfl) rfl
  · refine x_if_ne (tgt := 13) (pc' := 10) dX11_drops_7 (by decide) rfl (fun _ => ?_) (fun hn => absurd hn g1)
    refine x_aload_n (pc' := 14) dX11_drops_13 rfl rfl ?_
    refine x_getr (pc' := 17) (t := 30) dX11_drops_14 f_X11_37 (by decide) rfl rfl rfl rfl ?_
    refine xg_bI h (fun w3 hi3 hl3 r3 e2 h => ?_)
    refine x_callV (pc' := 20) (S := []) (As := []) (b' := (1, 0, 0)) dX11_drops_17 l_X11_214 m_X4_dropLast rfl rfl (show 30 < 122 by decide) rfl (Nat.le_of_ble_eq_true rfl) (Nat.le_of_ble_eq_true rfl) (Nat.le_of_ble_eq_true rfl) (Nat.le_of_ble_eq_true rfl) (r_X4_dropLast _ _ _ _ e2) rfl ?_
    obtain rfl := Option.some.inj h
    exact x_iret dX11_drops_20 rfl rfl (Nat.le_of_ble_eq_true rfl) rfl
def F_X11_isRefusal (v0 : Int32) : Option (Int32) := xbP (F_X11_within v0 (0 : Int32) (6 : Int32)) (fun w2 => if w2 = 0 ∨ w2 = 1 then some w2 else none)
set_option maxRecDepth 20000 in
set_option maxHeartbeats 2000000 in
theorem r_X11_isRefusal (v0 : Int32) (H : xHp) (o : Int32) (h : F_X11_isRefusal v0 = some o) : xM yX11_isRefusal cX11_isRefusal 1 3 (1, 0, 0) z [.int v0] H (some (.int o), H) := by
  refine x_meth2 (C := RX11) (ini := false) (L := [some (.int v0)]) rfl (by decide) (fun h9 => by cases h9) (by decide) (Nat.le_of_ble_eq_true rfl) rfl ?_
  refine x_iload_n (pc' := 1) dX11_isRefusal_0 rfl rfl ?_
  refine x_iconst (pc' := 2) (x := 0) dX11_isRefusal_1 (by decide) rfl ?_
  refine x_bipush (pc' := 4) (x := 6) dX11_isRefusal_2 (by decide) rfl ?_
  refine xg_bP h (fun w2 e1 h => ?_)
  refine x_callS (pc' := 7) (S := []) (As := [.int v0, .int (0 : Int32), .int (6 : Int32)]) (b' := (0, 0, 0)) dX11_isRefusal_4 l_X11_100 m_X11_within rfl rfl (Nat.le_of_ble_eq_true rfl) (Nat.le_of_ble_eq_true rfl) (Nat.le_of_ble_eq_true rfl) (Nat.le_of_ble_eq_true rfl) (r_X11_within _ _ _ _ _ e1) rfl ?_
  refine xg_or h (fun g3 h => ?_)
  obtain rfl := Option.some.inj h
  exact x_zret dX11_isRefusal_7 rfl g3 rfl (Nat.le_of_ble_eq_true rfl) rfl
def F_X11_modes (v1 : Int32) (v2 : Int32) (hi : Nat → Nat → Int32) (hl : Nat → Nat → Int64) (r : xRr) : Option (Int32 × xSt) := xbP (F_X11_isRefusal v1) (fun w2 => if w2 = 0 then some (((-1) : Int32), hi, hl, r) else xbP (F_X11_within v2 (0 : Int32) (2 : Int32)) (fun w5 => if w5 = 0 then some (((-1) : Int32), hi, hl, r) else if xok v1 7 = true then some ((hi 87 (Int32.toNatClampNeg v1)), (xu hi 87 (Int32.toNatClampNeg v1) v2), hl, r) else none))
set_option maxRecDepth 20000 in
set_option maxHeartbeats 2000000 in
theorem r_X11_modes (v1 : Int32) (v2 : Int32) (hi : Nat → Nat → Int32) (hl : Nat → Nat → Int64) (r : xRr) (o : Int32 × xSt) (h : F_X11_modes v1 v2 hi hl r = some o) : xM yX11_modes cX11_modes 4 1 (2, 0, 0) z [.ref 0, .int v1, .int v2] (xhp hi hl r) (xoI o) := by
  refine x_meth2 (C := RX11) (ini := false) (L := [some (.ref 0), some (.int v1), some (.int v2), none]) rfl (by decide) (fun h9 => by cases h9) (by decide) (Nat.le_of_ble_eq_true rfl) rfl ?_
  refine x_iload_n (pc' := 1) dX11_modes_0 rfl rfl ?_
  refine xg_bP h (fun w2 e1 h => ?_)
  refine x_callS (pc' := 4) (S := []) (As := [.int v1]) (b' := (1, 0, 0)) dX11_modes_1 l_X11_217 m_X11_isRefusal rfl rfl (Nat.le_of_ble_eq_true rfl) (Nat.le_of_ble_eq_true rfl) (Nat.le_of_ble_eq_true rfl) (Nat.le_of_ble_eq_true rfl) (r_X11_isRefusal _ _ _ e1) rfl ?_
  refine xg_ite h (fun g3 h => ?_) (fun g3 h => ?_)
  · refine x_if_eq (tgt := 16) (pc' := 7) dX11_modes_4 (by decide) rfl (fun _ => ?_) (fun hn => absurd g3 hn)
    refine x_iconst (pc' := 17) (x := (-1)) dX11_modes_16 (by decide) rfl ?_
    obtain rfl := Option.some.inj h
    exact x_iret dX11_modes_17 rfl rfl (Nat.le_of_ble_eq_true rfl) rfl
  · refine x_if_eq (tgt := 16) (pc' := 7) dX11_modes_4 (by decide) rfl (fun hn => absurd hn g3) (fun _ => ?_)
    refine x_iload_n (pc' := 8) dX11_modes_7 rfl rfl ?_
    refine x_iconst (pc' := 9) (x := 0) dX11_modes_8 (by decide) rfl ?_
    refine x_iconst (pc' := 10) (x := 2) dX11_modes_9 (by decide) rfl ?_
    refine xg_bP h (fun w5 e4 h => ?_)
    refine x_callS (pc' := 13) (S := []) (As := [.int v2, .int (0 : Int32), .int (2 : Int32)]) (b' := (0, 0, 0)) dX11_modes_10 l_X11_100 m_X11_within rfl rfl (Nat.le_of_ble_eq_true rfl) (Nat.le_of_ble_eq_true rfl) (Nat.le_of_ble_eq_true rfl) (Nat.le_of_ble_eq_true rfl) (r_X11_within _ _ _ _ _ e4) rfl ?_
    refine xg_ite h (fun g6 h => ?_) (fun g6 h => ?_)
    · refine x_if_ne (tgt := 18) (pc' := 16) dX11_modes_13 (by decide) rfl (fun hn => absurd g6 hn) (fun _ => ?_)
      refine x_iconst (pc' := 17) (x := (-1)) dX11_modes_16 (by decide) rfl ?_
      obtain rfl := Option.some.inj h
      exact x_iret dX11_modes_17 rfl rfl (Nat.le_of_ble_eq_true rfl) rfl
    · refine x_if_ne (tgt := 18) (pc' := 16) dX11_modes_13 (by decide) rfl (fun _ => ?_) (fun hn => absurd hn g6)
      refine x_aload_n (pc' := 19) dX11_modes_18 rfl rfl ?_
      refine x_getr (pc' := 22) (t := 87) dX11_modes_19 f_X11_90 (by decide) rfl rfl rfl rfl ?_
      refine x_iload_n (pc' := 23) dX11_modes_22 rfl rfl ?_
      refine xg_if h (fun g7 h => ?_)
      refine x_iald (pc' := 24) dX11_modes_23 (by decide) rfl (xok_in g7) rfl ?_
      refine x_istore_n (pc' := 25) (L' := [some (.ref 0), some (.int v1), some (.int v2), some (.int (hi 87 (Int32.toNatClampNeg v1)))]) dX11_modes_24 (Nat.le_of_ble_eq_true rfl) rfl rfl ?_
      refine x_aload_n (pc' := 26) dX11_modes_25 rfl rfl ?_
      refine x_getr (pc' := 29) (t := 87) dX11_modes_26 f_X11_90 (by decide) rfl rfl rfl rfl ?_
      refine x_iload_n (pc' := 30) dX11_modes_29 rfl rfl ?_
      refine x_iload_n (pc' := 31) dX11_modes_30 rfl rfl ?_
      refine x_iast (pc' := 32) dX11_modes_31 (by decide) rfl (xok_in g7) rfl ?_
      refine x_iload_n (pc' := 33) dX11_modes_32 rfl rfl ?_
      obtain rfl := Option.some.inj h
      exact x_iret dX11_modes_33 rfl rfl (Nat.le_of_ble_eq_true rfl) rfl
def F_X11_runThrough_146 (K9 : Int32 → (Nat → Nat → Int32) → (Nat → Nat → Int64) → xRr → Option (Int32 × xSt)) (v1 : Int32) (hi : Nat → Nat → Int32) (hl : Nat → Nat → Int64) (r : xRr) : Option (Int32 × xSt) := K9 (v1 + (1)) hi hl r
set_option maxRecDepth 20000 in
set_option maxHeartbeats 2000000 in
theorem r_X11_runThrough_146 (K9 : Int32 → (Nat → Nat → Int32) → (Nat → Nat → Int64) → xRr → Option (Int32 × xSt)) (hK9 : ∀ (v1 : Int32) (d2 : Option Value) (d3 : Option Value) (d4 : Option Value) (hi : Nat → Nat → Int32) (hl : Nat → Nat → Int64) (r : xRr) (o : Int32 × xSt), K9 v1 hi hl r = some o → xR (RX11, cX11_runThrough, 5, false, 1) (7, 0, 0) z 0 0 9 [some (.ref 0), some (.int v1), d2, d3, d4] [] (xhp hi hl r) (xoI o)) (v1 : Int32) (d2 : Option Value) (d3 : Option Value) (d4 : Option Value) (hi : Nat → Nat → Int32) (hl : Nat → Nat → Int64) (r : xRr) (o : Int32 × xSt) (h : F_X11_runThrough_146 K9 v1 hi hl r = some o) : xR (RX11, cX11_runThrough, 5, false, 1) (7, 0, 0) z 0 0 146 [some (.ref 0), some (.int v1), d2, d3, d4] [] (xhp hi hl r) (xoI o) := by
  refine x_iinc (pc' := 149) (v := (v1 + (1))) (L' := [some (.ref 0), some (.int (v1 + (1))), d2, d3, d4]) dX11_runThrough_146 rfl rfl (Nat.le_of_ble_eq_true rfl) rfl rfl ?_
  refine x_goto (tgt := 9) dX11_runThrough_149 (by decide) ?_
  exact hK9 _ _ _ _ _ _ _ _ h
def F_X11_runThrough_9 : Nat → Int32 → (Nat → Nat → Int32) → (Nat → Nat → Int64) → xRr → Option (Int32 × xSt)
  | 0, _, _, _, _ => none
  | n + 1, v1, hi, hl, r => if (60 : Int32) ≤ v1 then xbI (F_X9_nextStep hi hl r) (fun w3 hi3 hl3 r3 => if w3 = ((-20) : Int32) then some ((60 : Int32), hi3, hl3, r3) else some (((-11) : Int32), hi3, hl3, r3)) else xbI (F_X9_nextStep hi hl r) (fun w6 hi6 hl6 r6 => if w6 = ((-20) : Int32) then some (v1, hi6, hl6, r6) else xbI (F_X4_part w6 (0 : Int32) hi6 hl6 r6) (fun w9 hi9 hl9 r9 => xbI (F_X4_part w6 (1 : Int32) hi9 hl9 r9) (fun w11 hi11 hl11 r11 => xbI (F_X9_place w6 (2 : Int32) hi11 hl11 r11) (fun w13 hi13 hl13 r13 => xbI (F_X4_part w6 (3 : Int32) hi13 hl13 r13) (fun w15 hi15 hl15 r15 => xbI (F_X9_place w6 (4 : Int32) hi15 hl15 r15) (fun w17 hi17 hl17 r17 => xbI (F_X5_perform w9 w11 w13 w15 w17 hi17 hl17 r17) (fun w19 hi19 hl19 r19 => if w19 = 0 then F_X11_runThrough_146 (F_X11_runThrough_9 n) v1 hi19 hl19 r19 else xbP (F_X11_isRefusal (((-4) : Int32) - w19)) (fun w22 => if w22 = 0 then F_X11_runThrough_146 (F_X11_runThrough_9 n) v1 hi19 hl19 r19 else if xok (((-4) : Int32) - w19) 7 = true then if ((xu hi19 88 (Int32.toNatClampNeg (((-4) : Int32) - w19)) ((hi19 88 (Int32.toNatClampNeg (((-4) : Int32) - w19))) + (1 : Int32))) 87 (Int32.toNatClampNeg (((-4) : Int32) - w19))) = 0 then some (w19, (xu hi19 88 (Int32.toNatClampNeg (((-4) : Int32) - w19)) ((hi19 88 (Int32.toNatClampNeg (((-4) : Int32) - w19))) + (1 : Int32))), hl19, r19) else if ((xu hi19 88 (Int32.toNatClampNeg (((-4) : Int32) - w19)) ((hi19 88 (Int32.toNatClampNeg (((-4) : Int32) - w19))) + (1 : Int32))) 87 (Int32.toNatClampNeg (((-4) : Int32) - w19))) = (2 : Int32) then xbV (F_X9_leave (xu hi19 88 (Int32.toNatClampNeg (((-4) : Int32) - w19)) ((hi19 88 (Int32.toNatClampNeg (((-4) : Int32) - w19))) + (1 : Int32))) hl19 r19) (fun hi28 hl28 r28 => F_X11_runThrough_146 (F_X11_runThrough_9 n) v1 hi28 hl28 r28) else F_X11_runThrough_146 (F_X11_runThrough_9 n) v1 (xu hi19 88 (Int32.toNatClampNeg (((-4) : Int32) - w19)) ((hi19 88 (Int32.toNatClampNeg (((-4) : Int32) - w19))) + (1 : Int32))) hl19 r19 else none))))))))
set_option maxRecDepth 20000 in
set_option maxHeartbeats 2000000 in
theorem r_X11_runThrough_9 : ∀ (n : Nat) (v1 : Int32) (d2 : Option Value) (d3 : Option Value) (d4 : Option Value) (hi : Nat → Nat → Int32) (hl : Nat → Nat → Int64) (r : xRr) (o : Int32 × xSt), F_X11_runThrough_9 n v1 hi hl r = some o → xR (RX11, cX11_runThrough, 5, false, 1) (7, 0, 0) z 0 0 9 [some (.ref 0), some (.int v1), d2, d3, d4] [] (xhp hi hl r) (xoI o) := by
  intro n
  induction n with
  | zero =>
    intro v1 d2 d3 d4 hi hl r o h
    have h : none = some o := h
    cases h
  | succ n ih =>
    intro v1 d2 d3 d4 hi hl r o h
    refine x_iload_n (pc' := 10) dX11_runThrough_9 rfl rfl ?_
    refine x_bipush (pc' := 12) (x := 60) dX11_runThrough_10 (by decide) rfl ?_
    refine xg_ite h (fun g1 h => ?_) (fun g1 h => ?_)
    · refine x_icmp_ge (tgt := 152) (pc' := 15) dX11_runThrough_12 (by decide) rfl (fun _ => ?_) (fun hn => absurd g1 hn)
      refine x_aload_n (pc' := 153) dX11_runThrough_152 rfl rfl ?_
      refine x_getr (pc' := 156) (t := 33) dX11_runThrough_153 f_X11_46 (by decide) rfl rfl rfl rfl ?_
      refine xg_bI h (fun w3 hi3 hl3 r3 e2 h => ?_)
      refine x_callV (pc' := 159) (S := []) (As := []) (b' := (3, 0, 0)) dX11_runThrough_156 l_X11_296 m_X9_nextStep rfl rfl (show 33 < 122 by decide) rfl (Nat.le_of_ble_eq_true rfl) (Nat.le_of_ble_eq_true rfl) (Nat.le_of_ble_eq_true rfl) (Nat.le_of_ble_eq_true rfl) (r_X9_nextStep _ _ _ _ e2) rfl ?_
      refine x_bipush (pc' := 161) (x := (-20)) dX11_runThrough_159 (by decide) rfl ?_
      refine xg_ite h (fun g4 h => ?_) (fun g4 h => ?_)
      · refine x_icmp_ne (tgt := 169) (pc' := 164) dX11_runThrough_161 (by decide) rfl (fun hn => absurd g4 hn) (fun _ => ?_)
        refine x_bipush (pc' := 166) (x := 60) dX11_runThrough_164 (by decide) rfl ?_
        refine x_goto (tgt := 171) dX11_runThrough_166 (by decide) ?_
        obtain rfl := Option.some.inj h
        exact x_iret dX11_runThrough_171 rfl rfl (Nat.le_of_ble_eq_true rfl) rfl
      · refine x_icmp_ne (tgt := 169) (pc' := 164) dX11_runThrough_161 (by decide) rfl (fun _ => ?_) (fun hn => absurd hn g4)
        refine x_bipush (pc' := 171) (x := (-11)) dX11_runThrough_169 (by decide) rfl ?_
        obtain rfl := Option.some.inj h
        exact x_iret dX11_runThrough_171 rfl rfl (Nat.le_of_ble_eq_true rfl) rfl
    · refine x_icmp_ge (tgt := 152) (pc' := 15) dX11_runThrough_12 (by decide) rfl (fun hn => absurd hn g1) (fun _ => ?_)
      refine x_aload_n (pc' := 16) dX11_runThrough_15 rfl rfl ?_
      refine x_getr (pc' := 19) (t := 33) dX11_runThrough_16 f_X11_46 (by decide) rfl rfl rfl rfl ?_
      refine xg_bI h (fun w6 hi6 hl6 r6 e5 h => ?_)
      refine x_callV (pc' := 22) (S := []) (As := []) (b' := (3, 0, 0)) dX11_runThrough_19 l_X11_296 m_X9_nextStep rfl rfl (show 33 < 122 by decide) rfl (Nat.le_of_ble_eq_true rfl) (Nat.le_of_ble_eq_true rfl) (Nat.le_of_ble_eq_true rfl) (Nat.le_of_ble_eq_true rfl) (r_X9_nextStep _ _ _ _ e5) rfl ?_
      refine x_istore_n (pc' := 23) (L' := [some (.ref 0), some (.int v1), some (.int w6), d3, d4]) dX11_runThrough_22 (Nat.le_of_ble_eq_true rfl) rfl rfl ?_
      refine x_iload_n (pc' := 24) dX11_runThrough_23 rfl rfl ?_
      refine x_bipush (pc' := 26) (x := (-20)) dX11_runThrough_24 (by decide) rfl ?_
      refine xg_ite h (fun g7 h => ?_) (fun g7 h => ?_)
      · refine x_icmp_ne (tgt := 31) (pc' := 29) dX11_runThrough_26 (by decide) rfl (fun hn => absurd g7 hn) (fun _ => ?_)
        refine x_iload_n (pc' := 30) dX11_runThrough_29 rfl rfl ?_
        obtain rfl := Option.some.inj h
        exact x_iret dX11_runThrough_30 rfl rfl (Nat.le_of_ble_eq_true rfl) rfl
      · refine x_icmp_ne (tgt := 31) (pc' := 29) dX11_runThrough_26 (by decide) rfl (fun _ => ?_) (fun hn => absurd hn g7)
        refine x_aload_n (pc' := 32) dX11_runThrough_31 rfl rfl ?_
        refine x_getr (pc' := 35) (t := 14) dX11_runThrough_32 f_X11_30 (by decide) rfl rfl rfl rfl ?_
        refine x_aload_n (pc' := 36) dX11_runThrough_35 rfl rfl ?_
        refine x_getr (pc' := 39) (t := 30) dX11_runThrough_36 f_X11_37 (by decide) rfl rfl rfl rfl ?_
        refine x_iload_n (pc' := 40) dX11_runThrough_39 rfl rfl ?_
        refine x_iconst (pc' := 41) (x := 0) dX11_runThrough_40 (by decide) rfl ?_
        refine xg_bI h (fun w9 hi9 hl9 r9 e8 h => ?_)
        refine x_callV (pc' := 44) (S := [.ref 14]) (As := [.int w6, .int (0 : Int32)]) (b' := (0, 0, 0)) dX11_runThrough_41 l_X11_227 m_X4_part rfl rfl (show 30 < 122 by decide) rfl (Nat.le_of_ble_eq_true rfl) (Nat.le_of_ble_eq_true rfl) (Nat.le_of_ble_eq_true rfl) (Nat.le_of_ble_eq_true rfl) (r_X4_part _ _ _ _ _ _ e8) rfl ?_
        refine x_aload_n (pc' := 45) dX11_runThrough_44 rfl rfl ?_
        refine x_getr (pc' := 48) (t := 30) dX11_runThrough_45 f_X11_37 (by decide) rfl rfl rfl rfl ?_
        refine x_iload_n (pc' := 49) dX11_runThrough_48 rfl rfl ?_
        refine x_iconst (pc' := 50) (x := 1) dX11_runThrough_49 (by decide) rfl ?_
        refine xg_bI h (fun w11 hi11 hl11 r11 e10 h => ?_)
        refine x_callV (pc' := 53) (S := [.int w9, .ref 14]) (As := [.int w6, .int (1 : Int32)]) (b' := (0, 0, 0)) dX11_runThrough_50 l_X11_227 m_X4_part rfl rfl (show 30 < 122 by decide) rfl (Nat.le_of_ble_eq_true rfl) (Nat.le_of_ble_eq_true rfl) (Nat.le_of_ble_eq_true rfl) (Nat.le_of_ble_eq_true rfl) (r_X4_part _ _ _ _ _ _ e10) rfl ?_
        refine x_aload_n (pc' := 54) dX11_runThrough_53 rfl rfl ?_
        refine x_getr (pc' := 57) (t := 33) dX11_runThrough_54 f_X11_46 (by decide) rfl rfl rfl rfl ?_
        refine x_iload_n (pc' := 58) dX11_runThrough_57 rfl rfl ?_
        refine x_iconst (pc' := 59) (x := 2) dX11_runThrough_58 (by decide) rfl ?_
        refine xg_bI h (fun w13 hi13 hl13 r13 e12 h => ?_)
        refine x_callV (pc' := 62) (S := [.int w11, .int w9, .ref 14]) (As := [.int w6, .int (2 : Int32)]) (b' := (1, 0, 0)) dX11_runThrough_59 l_X11_299 m_X9_place rfl rfl (show 33 < 122 by decide) rfl (Nat.le_of_ble_eq_true rfl) (Nat.le_of_ble_eq_true rfl) (Nat.le_of_ble_eq_true rfl) (Nat.le_of_ble_eq_true rfl) (r_X9_place _ _ _ _ _ _ e12) rfl ?_
        refine x_aload_n (pc' := 63) dX11_runThrough_62 rfl rfl ?_
        refine x_getr (pc' := 66) (t := 30) dX11_runThrough_63 f_X11_37 (by decide) rfl rfl rfl rfl ?_
        refine x_iload_n (pc' := 67) dX11_runThrough_66 rfl rfl ?_
        refine x_iconst (pc' := 68) (x := 3) dX11_runThrough_67 (by decide) rfl ?_
        refine xg_bI h (fun w15 hi15 hl15 r15 e14 h => ?_)
        refine x_callV (pc' := 71) (S := [.int w13, .int w11, .int w9, .ref 14]) (As := [.int w6, .int (3 : Int32)]) (b' := (0, 0, 0)) dX11_runThrough_68 l_X11_227 m_X4_part rfl rfl (show 30 < 122 by decide) rfl (Nat.le_of_ble_eq_true rfl) (Nat.le_of_ble_eq_true rfl) (Nat.le_of_ble_eq_true rfl) (Nat.le_of_ble_eq_true rfl) (r_X4_part _ _ _ _ _ _ e14) rfl ?_
        refine x_aload_n (pc' := 72) dX11_runThrough_71 rfl rfl ?_
        refine x_getr (pc' := 75) (t := 33) dX11_runThrough_72 f_X11_46 (by decide) rfl rfl rfl rfl ?_
        refine x_iload_n (pc' := 76) dX11_runThrough_75 rfl rfl ?_
        refine x_iconst (pc' := 77) (x := 4) dX11_runThrough_76 (by decide) rfl ?_
        refine xg_bI h (fun w17 hi17 hl17 r17 e16 h => ?_)
        refine x_callV (pc' := 80) (S := [.int w15, .int w13, .int w11, .int w9, .ref 14]) (As := [.int w6, .int (4 : Int32)]) (b' := (1, 0, 0)) dX11_runThrough_77 l_X11_299 m_X9_place rfl rfl (show 33 < 122 by decide) rfl (Nat.le_of_ble_eq_true rfl) (Nat.le_of_ble_eq_true rfl) (Nat.le_of_ble_eq_true rfl) (Nat.le_of_ble_eq_true rfl) (r_X9_place _ _ _ _ _ _ e16) rfl ?_
        refine xg_bI h (fun w19 hi19 hl19 r19 e18 h => ?_)
        refine x_callV (pc' := 83) (S := []) (As := [.int w9, .int w11, .int w13, .int w15, .int w17]) (b' := (6, 0, 0)) dX11_runThrough_80 l_X11_185 m_X5_perform rfl rfl (show 14 < 122 by decide) rfl (Nat.le_of_ble_eq_true rfl) (Nat.le_of_ble_eq_true rfl) (Nat.le_of_ble_eq_true rfl) (Nat.le_of_ble_eq_true rfl) (r_X5_perform _ _ _ _ _ _ _ _ _ e18) rfl ?_
        refine x_istore_n (pc' := 84) (L' := [some (.ref 0), some (.int v1), some (.int w6), some (.int w19), d4]) dX11_runThrough_83 (Nat.le_of_ble_eq_true rfl) rfl rfl ?_
        refine x_bipush (pc' := 86) (x := (-4)) dX11_runThrough_84 (by decide) rfl ?_
        refine x_iload_n (pc' := 87) dX11_runThrough_86 rfl rfl ?_
        refine x_isub (pc' := 88) dX11_runThrough_87 rfl ?_
        refine x_istore (pc' := 90) (L' := [some (.ref 0), some (.int v1), some (.int w6), some (.int w19), some (.int (((-4) : Int32) - w19))]) dX11_runThrough_88 (Nat.le_of_ble_eq_true rfl) rfl rfl ?_
        refine x_iload_n (pc' := 91) dX11_runThrough_90 rfl rfl ?_
        refine xg_ite h (fun g20 h => ?_) (fun g20 h => ?_)
        · refine x_if_eq (tgt := 146) (pc' := 94) dX11_runThrough_91 (by decide) rfl (fun _ => ?_) (fun hn => absurd g20 hn)
          exact r_X11_runThrough_146 (F_X11_runThrough_9 n) ih _ _ _ _ _ _ _ _ h
        · refine x_if_eq (tgt := 146) (pc' := 94) dX11_runThrough_91 (by decide) rfl (fun hn => absurd hn g20) (fun _ => ?_)
          refine x_iload (pc' := 96) dX11_runThrough_94 rfl rfl ?_
          refine xg_bP h (fun w22 e21 h => ?_)
          refine x_callS (pc' := 99) (S := []) (As := [.int (((-4) : Int32) - w19)]) (b' := (1, 0, 0)) dX11_runThrough_96 l_X11_217 m_X11_isRefusal rfl rfl (Nat.le_of_ble_eq_true rfl) (Nat.le_of_ble_eq_true rfl) (Nat.le_of_ble_eq_true rfl) (Nat.le_of_ble_eq_true rfl) (r_X11_isRefusal _ _ _ e21) rfl ?_
          refine xg_ite h (fun g23 h => ?_) (fun g23 h => ?_)
          · refine x_if_ne (tgt := 105) (pc' := 102) dX11_runThrough_99 (by decide) rfl (fun hn => absurd g23 hn) (fun _ => ?_)
            refine x_goto (tgt := 146) dX11_runThrough_102 (by decide) ?_
            exact r_X11_runThrough_146 (F_X11_runThrough_9 n) ih _ _ _ _ _ _ _ _ h
          · refine x_if_ne (tgt := 105) (pc' := 102) dX11_runThrough_99 (by decide) rfl (fun _ => ?_) (fun hn => absurd hn g23)
            refine x_aload_n (pc' := 106) dX11_runThrough_105 rfl rfl ?_
            refine x_getr (pc' := 109) (t := 88) dX11_runThrough_106 f_X11_94 (by decide) rfl rfl rfl rfl ?_
            refine x_iload (pc' := 111) dX11_runThrough_109 rfl rfl ?_
            refine x_dup2 (pc' := 112) dX11_runThrough_111 rfl rfl rfl ?_
            refine xg_if h (fun g24 h => ?_)
            refine x_iald (pc' := 113) dX11_runThrough_112 (by decide) rfl (xok_in g24) rfl ?_
            refine x_iconst (pc' := 114) (x := 1) dX11_runThrough_113 (by decide) rfl ?_
            refine x_iadd (pc' := 115) dX11_runThrough_114 rfl ?_
            refine x_iast (pc' := 116) dX11_runThrough_115 (by decide) rfl (xok_in g24) rfl ?_
            refine x_aload_n (pc' := 117) dX11_runThrough_116 rfl rfl ?_
            refine x_getr (pc' := 120) (t := 87) dX11_runThrough_117 f_X11_90 (by decide) rfl rfl rfl rfl ?_
            refine x_iload (pc' := 122) dX11_runThrough_120 rfl rfl ?_
            refine x_iald (pc' := 123) dX11_runThrough_122 (by decide) rfl (xok_in g24) rfl ?_
            refine xg_ite h (fun g25 h => ?_) (fun g25 h => ?_)
            · refine x_if_ne (tgt := 128) (pc' := 126) dX11_runThrough_123 (by decide) rfl (fun hn => absurd g25 hn) (fun _ => ?_)
              refine x_iload_n (pc' := 127) dX11_runThrough_126 rfl rfl ?_
              obtain rfl := Option.some.inj h
              exact x_iret dX11_runThrough_127 rfl rfl (Nat.le_of_ble_eq_true rfl) rfl
            · refine x_if_ne (tgt := 128) (pc' := 126) dX11_runThrough_123 (by decide) rfl (fun _ => ?_) (fun hn => absurd hn g25)
              refine x_aload_n (pc' := 129) dX11_runThrough_128 rfl rfl ?_
              refine x_getr (pc' := 132) (t := 87) dX11_runThrough_129 f_X11_90 (by decide) rfl rfl rfl rfl ?_
              refine x_iload (pc' := 134) dX11_runThrough_132 rfl rfl ?_
              refine x_iald (pc' := 135) dX11_runThrough_134 (by decide) rfl (xok_in g24) rfl ?_
              refine x_iconst (pc' := 136) (x := 2) dX11_runThrough_135 (by decide) rfl ?_
              refine xg_ite h (fun g26 h => ?_) (fun g26 h => ?_)
              · refine x_icmp_ne (tgt := 146) (pc' := 139) dX11_runThrough_136 (by decide) rfl (fun hn => absurd g26 hn) (fun _ => ?_)
                refine x_aload_n (pc' := 140) dX11_runThrough_139 rfl rfl ?_
                refine x_getr (pc' := 143) (t := 33) dX11_runThrough_140 f_X11_46 (by decide) rfl rfl rfl rfl ?_
                refine xg_bV h (fun hi28 hl28 r28 e27 h => ?_)
                refine x_callV (pc' := 146) (S := []) (As := []) (b' := (2, 0, 0)) dX11_runThrough_143 l_X11_302 m_X9_leave rfl rfl (show 33 < 122 by decide) rfl (Nat.le_of_ble_eq_true rfl) (Nat.le_of_ble_eq_true rfl) (Nat.le_of_ble_eq_true rfl) (Nat.le_of_ble_eq_true rfl) (r_X9_leave _ _ _ _ e27) rfl ?_
                exact r_X11_runThrough_146 (F_X11_runThrough_9 n) ih _ _ _ _ _ _ _ _ h
              · refine x_icmp_ne (tgt := 146) (pc' := 139) dX11_runThrough_136 (by decide) rfl (fun _ => ?_) (fun hn => absurd hn g26)
                exact r_X11_runThrough_146 (F_X11_runThrough_9 n) ih _ _ _ _ _ _ _ _ h
def F_X11_runThrough (hi : Nat → Nat → Int32) (hl : Nat → Nat → Int64) (r : xRr) : Option (Int32 × xSt) := xbV (F_X9_begin hi hl r) (fun hi2 hl2 r2 => F_X11_runThrough_9 1000000 (0 : Int32) hi2 hl2 r2)
set_option maxRecDepth 20000 in
set_option maxHeartbeats 2000000 in
theorem r_X11_runThrough (hi : Nat → Nat → Int32) (hl : Nat → Nat → Int64) (r : xRr) (o : Int32 × xSt) (h : F_X11_runThrough hi hl r = some o) : xM yX11_runThrough cX11_runThrough 5 1 (7, 0, 0) z [.ref 0] (xhp hi hl r) (xoI o) := by
  refine x_meth2 (C := RX11) (ini := false) (L := [some (.ref 0), none, none, none, none]) rfl (by decide) (fun h9 => by cases h9) (by decide) (Nat.le_of_ble_eq_true rfl) rfl ?_
  refine x_aload_n (pc' := 1) dX11_runThrough_0 rfl rfl ?_
  refine x_getr (pc' := 4) (t := 33) dX11_runThrough_1 f_X11_46 (by decide) rfl rfl rfl rfl ?_
  refine xg_bV h (fun hi2 hl2 r2 e1 h => ?_)
  refine x_callV (pc' := 7) (S := []) (As := []) (b' := (0, 0, 0)) dX11_runThrough_4 l_X11_293 m_X9_begin rfl rfl (show 33 < 122 by decide) rfl (Nat.le_of_ble_eq_true rfl) (Nat.le_of_ble_eq_true rfl) (Nat.le_of_ble_eq_true rfl) (Nat.le_of_ble_eq_true rfl) (r_X9_begin _ _ _ _ e1) rfl ?_
  refine x_iconst (pc' := 8) (x := 0) dX11_runThrough_7 (by decide) rfl ?_
  refine x_istore_n (pc' := 9) (L' := [some (.ref 0), some (.int (0 : Int32)), none, none, none]) dX11_runThrough_8 (Nat.le_of_ble_eq_true rfl) rfl rfl ?_
  exact r_X11_runThrough_9 1000000 _ _ _ _ _ _ _ _ h
def F_X11_runs_15 : Nat → Int32 → (Nat → Nat → Int32) → (Nat → Nat → Int64) → xRr → Option (Int32 × xSt)
  | 0, _, _, _, _ => none
  | n + 1, v1, hi, hl, r => if (7 : Int32) ≤ v1 then xbV (F_X1_mark hi hl r) (fun hi3 hl3 r3 => xbI (F_X11_runThrough hi3 hl3 r3) (fun w5 hi5 hl5 r5 => if 0 ≤ w5 then xbV (F_X1_keepMark hi5 hl5 r5) (fun hi8 hl8 r8 => some (w5, hi8, hl8, r8)) else xbV (F_X1_returnToMark hi5 hl5 r5) (fun hi10 hl10 r10 => some (w5, hi10, hl10, r10)))) else if xok v1 7 = true then (F_X11_runs_15 n) (v1 + (1)) (xu hi 88 (Int32.toNatClampNeg v1) (0 : Int32)) hl r else none
set_option maxRecDepth 20000 in
set_option maxHeartbeats 2000000 in
theorem r_X11_runs_15 : ∀ (n : Nat) (v1 : Int32) (hi : Nat → Nat → Int32) (hl : Nat → Nat → Int64) (r : xRr) (o : Int32 × xSt), F_X11_runs_15 n v1 hi hl r = some o → xR (RX11, cX11_runs, 2, false, 1) (8, 0, 0) z 0 0 15 [some (.ref 0), some (.int v1)] [] (xhp hi hl r) (xoI o) := by
  intro n
  induction n with
  | zero =>
    intro v1 hi hl r o h
    have h : none = some o := h
    cases h
  | succ n ih =>
    intro v1 hi hl r o h
    refine x_iload_n (pc' := 16) dX11_runs_15 rfl rfl ?_
    refine x_bipush (pc' := 18) (x := 7) dX11_runs_16 (by decide) rfl ?_
    refine xg_ite h (fun g1 h => ?_) (fun g1 h => ?_)
    · refine x_icmp_ge (tgt := 34) (pc' := 21) dX11_runs_18 (by decide) rfl (fun _ => ?_) (fun hn => absurd g1 hn)
      refine x_aload_n (pc' := 35) dX11_runs_34 rfl rfl ?_
      refine x_getr (pc' := 38) (t := 41) dX11_runs_35 f_X11_62 (by decide) rfl rfl rfl rfl ?_
      refine x_aload_n (pc' := 39) dX11_runs_38 rfl rfl ?_
      refine x_getr (pc' := 42) (t := 1) dX11_runs_39 f_X11_12 (by decide) rfl rfl rfl rfl ?_
      refine xg_bV h (fun hi3 hl3 r3 e2 h => ?_)
      refine x_callV (pc' := 45) (S := []) (As := [.ref 1]) (b' := (2, 0, 0)) dX11_runs_42 l_X11_175 m_X1_mark rfl rfl (show 41 < 122 by decide) rfl (Nat.le_of_ble_eq_true rfl) (Nat.le_of_ble_eq_true rfl) (Nat.le_of_ble_eq_true rfl) (Nat.le_of_ble_eq_true rfl) (r_X1_mark _ _ _ _ e2) rfl ?_
      refine x_aload_n (pc' := 46) dX11_runs_45 rfl rfl ?_
      refine xg_bI h (fun w5 hi5 hl5 r5 e4 h => ?_)
      refine x_callV (pc' := 49) (S := []) (As := []) (b' := (7, 0, 0)) dX11_runs_46 l_X11_220 m_X11_runThrough rfl rfl (show 0 < 122 by decide) rfl (Nat.le_of_ble_eq_true rfl) (Nat.le_of_ble_eq_true rfl) (Nat.le_of_ble_eq_true rfl) (Nat.le_of_ble_eq_true rfl) (r_X11_runThrough _ _ _ _ e4) rfl ?_
      refine x_istore_n (pc' := 50) (L' := [some (.ref 0), some (.int w5)]) dX11_runs_49 (Nat.le_of_ble_eq_true rfl) rfl rfl ?_
      refine x_iload_n (pc' := 51) dX11_runs_50 rfl rfl ?_
      refine xg_ite h (fun g6 h => ?_) (fun g6 h => ?_)
      · refine x_if_ge (tgt := 68) (pc' := 54) dX11_runs_51 (by decide) rfl (fun _ => ?_) (fun hn => absurd g6 hn)
        refine x_aload_n (pc' := 69) dX11_runs_68 rfl rfl ?_
        refine x_getr (pc' := 72) (t := 41) dX11_runs_69 f_X11_62 (by decide) rfl rfl rfl rfl ?_
        refine xg_bV h (fun hi8 hl8 r8 e7 h => ?_)
        refine x_callV (pc' := 75) (S := []) (As := []) (b' := (1, 0, 0)) dX11_runs_72 l_X11_182 m_X1_keepMark rfl rfl (show 41 < 122 by decide) rfl (Nat.le_of_ble_eq_true rfl) (Nat.le_of_ble_eq_true rfl) (Nat.le_of_ble_eq_true rfl) (Nat.le_of_ble_eq_true rfl) (r_X1_keepMark _ _ _ _ e7) rfl ?_
        refine x_iload_n (pc' := 76) dX11_runs_75 rfl rfl ?_
        obtain rfl := Option.some.inj h
        exact x_iret dX11_runs_76 rfl rfl (Nat.le_of_ble_eq_true rfl) rfl
      · refine x_if_ge (tgt := 68) (pc' := 54) dX11_runs_51 (by decide) rfl (fun hn => absurd hn g6) (fun _ => ?_)
        refine x_aload_n (pc' := 55) dX11_runs_54 rfl rfl ?_
        refine x_getr (pc' := 58) (t := 41) dX11_runs_55 f_X11_62 (by decide) rfl rfl rfl rfl ?_
        refine x_aload_n (pc' := 59) dX11_runs_58 rfl rfl ?_
        refine x_getr (pc' := 62) (t := 1) dX11_runs_59 f_X11_12 (by decide) rfl rfl rfl rfl ?_
        refine xg_bV h (fun hi10 hl10 r10 e9 h => ?_)
        refine x_callV (pc' := 65) (S := []) (As := [.ref 1]) (b' := (2, 0, 0)) dX11_runs_62 l_X11_223 m_X1_returnToMark rfl rfl (show 41 < 122 by decide) rfl (Nat.le_of_ble_eq_true rfl) (Nat.le_of_ble_eq_true rfl) (Nat.le_of_ble_eq_true rfl) (Nat.le_of_ble_eq_true rfl) (r_X1_returnToMark _ _ _ _ e9) rfl ?_
        refine x_goto (tgt := 75) dX11_runs_65 (by decide) ?_
        refine x_iload_n (pc' := 76) dX11_runs_75 rfl rfl ?_
        obtain rfl := Option.some.inj h
        exact x_iret dX11_runs_76 rfl rfl (Nat.le_of_ble_eq_true rfl) rfl
    · refine x_icmp_ge (tgt := 34) (pc' := 21) dX11_runs_18 (by decide) rfl (fun hn => absurd hn g1) (fun _ => ?_)
      refine x_aload_n (pc' := 22) dX11_runs_21 rfl rfl ?_
      refine x_getr (pc' := 25) (t := 88) dX11_runs_22 f_X11_94 (by decide) rfl rfl rfl rfl ?_
      refine x_iload_n (pc' := 26) dX11_runs_25 rfl rfl ?_
      refine x_iconst (pc' := 27) (x := 0) dX11_runs_26 (by decide) rfl ?_
      refine xg_if h (fun g11 h => ?_)
      refine x_iast (pc' := 28) dX11_runs_27 (by decide) rfl (xok_in g11) rfl ?_
      refine x_iinc (pc' := 31) (v := (v1 + (1))) (L' := [some (.ref 0), some (.int (v1 + (1)))]) dX11_runs_28 rfl rfl (Nat.le_of_ble_eq_true rfl) rfl rfl ?_
      refine x_goto (tgt := 15) dX11_runs_31 (by decide) ?_
      exact ih _ _ _ _ _ h
def F_X11_runs (hi : Nat → Nat → Int32) (hl : Nat → Nat → Int64) (r : xRr) : Option (Int32 × xSt) := if (hi 30 3) ≤ 0 then F_X11_runs_15 1000000 (0 : Int32) hi hl r else some (((-2) : Int32), hi, hl, r)
set_option maxRecDepth 20000 in
set_option maxHeartbeats 2000000 in
theorem r_X11_runs (hi : Nat → Nat → Int32) (hl : Nat → Nat → Int64) (r : xRr) (o : Int32 × xSt) (h : F_X11_runs hi hl r = some o) : xM yX11_runs cX11_runs 2 1 (8, 0, 0) z [.ref 0] (xhp hi hl r) (xoI o) := by
  refine x_meth2 (C := RX11) (ini := false) (L := [some (.ref 0), none]) rfl (by decide) (fun h9 => by cases h9) (by decide) (Nat.le_of_ble_eq_true rfl) rfl ?_
  refine x_aload_n (pc' := 1) dX11_runs_0 rfl rfl ?_
  refine x_getr (pc' := 4) (t := 30) dX11_runs_1 f_X11_37 (by decide) rfl rfl rfl rfl ?_
  refine x_geti (pc' := 7) dX11_runs_4 f_X11_205 (by decide) rfl rfl rfl ?_
  refine xg_ite h (fun g1 h => ?_) (fun g1 h => ?_)
  · refine x_if_le (tgt := 13) (pc' := 10) dX11_runs_7 (by decide) rfl (fun _ => ?_) (fun hn => absurd g1 hn)
    refine x_iconst (pc' := 14) (x := 0) dX11_runs_13 (by decide) rfl ?_
    refine x_istore_n (pc' := 15) (L' := [some (.ref 0), some (.int (0 : Int32))]) dX11_runs_14 (Nat.le_of_ble_eq_true rfl) rfl rfl ?_
    exact r_X11_runs_15 1000000 _ _ _ _ _ h
  · refine x_if_le (tgt := 13) (pc' := 10) dX11_runs_7 (by decide) rfl (fun hn => absurd hn g1) (fun _ => ?_)
    refine x_bipush (pc' := 12) (x := (-2)) dX11_runs_10 (by decide) rfl ?_
    obtain rfl := Option.some.inj h
    exact x_iret dX11_runs_12 rfl rfl (Nat.le_of_ble_eq_true rfl) rfl
def F_X11_line (v1 : Int32) (v2 : Int32) (hi : Nat → Nat → Int32) (hl : Nat → Nat → Int64) (r : xRr) : Option (Int32 × xSt) := xbI (F_X4_has v1 hi hl r) (fun w2 hi2 hl2 r2 => if w2 = 0 then some (((-1) : Int32), hi2, hl2, r2) else xbP (F_X11_within v2 (0 : Int32) (4 : Int32)) (fun w5 => if w5 = 0 then some (((-1) : Int32), hi2, hl2, r2) else xbI (F_X4_part v1 v2 hi2 hl2 r2) (fun w8 hi8 hl8 r8 => some (w8, hi8, hl8, r8))))
set_option maxRecDepth 20000 in
set_option maxHeartbeats 2000000 in
theorem r_X11_line (v1 : Int32) (v2 : Int32) (hi : Nat → Nat → Int32) (hl : Nat → Nat → Int64) (r : xRr) (o : Int32 × xSt) (h : F_X11_line v1 v2 hi hl r = some o) : xM yX11_line cX11_line 3 1 (1, 0, 0) z [.ref 0, .int v1, .int v2] (xhp hi hl r) (xoI o) := by
  refine x_meth2 (C := RX11) (ini := false) (L := [some (.ref 0), some (.int v1), some (.int v2)]) rfl (by decide) (fun h9 => by cases h9) (by decide) (Nat.le_of_ble_eq_true rfl) rfl ?_
  refine x_aload_n (pc' := 1) dX11_line_0 rfl rfl ?_
  refine x_getr (pc' := 4) (t := 30) dX11_line_1 f_X11_37 (by decide) rfl rfl rfl rfl ?_
  refine x_iload_n (pc' := 5) dX11_line_4 rfl rfl ?_
  refine xg_bI h (fun w2 hi2 hl2 r2 e1 h => ?_)
  refine x_callV (pc' := 8) (S := []) (As := [.int v1]) (b' := (0, 0, 0)) dX11_line_5 l_X11_226 m_X4_has rfl rfl (show 30 < 122 by decide) rfl (Nat.le_of_ble_eq_true rfl) (Nat.le_of_ble_eq_true rfl) (Nat.le_of_ble_eq_true rfl) (Nat.le_of_ble_eq_true rfl) (r_X4_has _ _ _ _ _ e1) rfl ?_
  refine xg_ite h (fun g3 h => ?_) (fun g3 h => ?_)
  · refine x_if_eq (tgt := 20) (pc' := 11) dX11_line_8 (by decide) rfl (fun _ => ?_) (fun hn => absurd g3 hn)
    refine x_iconst (pc' := 21) (x := (-1)) dX11_line_20 (by decide) rfl ?_
    obtain rfl := Option.some.inj h
    exact x_iret dX11_line_21 rfl rfl (Nat.le_of_ble_eq_true rfl) rfl
  · refine x_if_eq (tgt := 20) (pc' := 11) dX11_line_8 (by decide) rfl (fun hn => absurd hn g3) (fun _ => ?_)
    refine x_iload_n (pc' := 12) dX11_line_11 rfl rfl ?_
    refine x_iconst (pc' := 13) (x := 0) dX11_line_12 (by decide) rfl ?_
    refine x_iconst (pc' := 14) (x := 4) dX11_line_13 (by decide) rfl ?_
    refine xg_bP h (fun w5 e4 h => ?_)
    refine x_callS (pc' := 17) (S := []) (As := [.int v2, .int (0 : Int32), .int (4 : Int32)]) (b' := (0, 0, 0)) dX11_line_14 l_X11_100 m_X11_within rfl rfl (Nat.le_of_ble_eq_true rfl) (Nat.le_of_ble_eq_true rfl) (Nat.le_of_ble_eq_true rfl) (Nat.le_of_ble_eq_true rfl) (r_X11_within _ _ _ _ _ e4) rfl ?_
    refine xg_ite h (fun g6 h => ?_) (fun g6 h => ?_)
    · refine x_if_ne (tgt := 22) (pc' := 20) dX11_line_17 (by decide) rfl (fun hn => absurd g6 hn) (fun _ => ?_)
      refine x_iconst (pc' := 21) (x := (-1)) dX11_line_20 (by decide) rfl ?_
      obtain rfl := Option.some.inj h
      exact x_iret dX11_line_21 rfl rfl (Nat.le_of_ble_eq_true rfl) rfl
    · refine x_if_ne (tgt := 22) (pc' := 20) dX11_line_17 (by decide) rfl (fun _ => ?_) (fun hn => absurd hn g6)
      refine x_aload_n (pc' := 23) dX11_line_22 rfl rfl ?_
      refine x_getr (pc' := 26) (t := 30) dX11_line_23 f_X11_37 (by decide) rfl rfl rfl rfl ?_
      refine x_iload_n (pc' := 27) dX11_line_26 rfl rfl ?_
      refine x_iload_n (pc' := 28) dX11_line_27 rfl rfl ?_
      refine xg_bI h (fun w8 hi8 hl8 r8 e7 h => ?_)
      refine x_callV (pc' := 31) (S := []) (As := [.int v1, .int v2]) (b' := (0, 0, 0)) dX11_line_28 l_X11_227 m_X4_part rfl rfl (show 30 < 122 by decide) rfl (Nat.le_of_ble_eq_true rfl) (Nat.le_of_ble_eq_true rfl) (Nat.le_of_ble_eq_true rfl) (Nat.le_of_ble_eq_true rfl) (r_X4_part _ _ _ _ _ _ e7) rfl ?_
      obtain rfl := Option.some.inj h
      exact x_iret dX11_line_31 rfl rfl (Nat.le_of_ble_eq_true rfl) rfl
def F_X11_met (v1 : Int32) (hi : Nat → Nat → Int32) (hl : Nat → Nat → Int64) (r : xRr) : Option (Int32 × xSt) := xbP (F_X11_isRefusal v1) (fun w2 => if w2 = 0 then some (((-1) : Int32), hi, hl, r) else if xok v1 7 = true then some ((hi 88 (Int32.toNatClampNeg v1)), hi, hl, r) else none)
set_option maxRecDepth 20000 in
set_option maxHeartbeats 2000000 in
theorem r_X11_met (v1 : Int32) (hi : Nat → Nat → Int32) (hl : Nat → Nat → Int64) (r : xRr) (o : Int32 × xSt) (h : F_X11_met v1 hi hl r = some o) : xM yX11_met cX11_met 2 1 (2, 0, 0) z [.ref 0, .int v1] (xhp hi hl r) (xoI o) := by
  refine x_meth2 (C := RX11) (ini := false) (L := [some (.ref 0), some (.int v1)]) rfl (by decide) (fun h9 => by cases h9) (by decide) (Nat.le_of_ble_eq_true rfl) rfl ?_
  refine x_iload_n (pc' := 1) dX11_met_0 rfl rfl ?_
  refine xg_bP h (fun w2 e1 h => ?_)
  refine x_callS (pc' := 4) (S := []) (As := [.int v1]) (b' := (1, 0, 0)) dX11_met_1 l_X11_217 m_X11_isRefusal rfl rfl (Nat.le_of_ble_eq_true rfl) (Nat.le_of_ble_eq_true rfl) (Nat.le_of_ble_eq_true rfl) (Nat.le_of_ble_eq_true rfl) (r_X11_isRefusal _ _ _ e1) rfl ?_
  refine xg_ite h (fun g3 h => ?_) (fun g3 h => ?_)
  · refine x_if_eq (tgt := 16) (pc' := 7) dX11_met_4 (by decide) rfl (fun _ => ?_) (fun hn => absurd g3 hn)
    refine x_iconst (pc' := 17) (x := (-1)) dX11_met_16 (by decide) rfl ?_
    obtain rfl := Option.some.inj h
    exact x_iret dX11_met_17 rfl rfl (Nat.le_of_ble_eq_true rfl) rfl
  · refine x_if_eq (tgt := 16) (pc' := 7) dX11_met_4 (by decide) rfl (fun hn => absurd hn g3) (fun _ => ?_)
    refine x_aload_n (pc' := 8) dX11_met_7 rfl rfl ?_
    refine x_getr (pc' := 11) (t := 88) dX11_met_8 f_X11_94 (by decide) rfl rfl rfl rfl ?_
    refine x_iload_n (pc' := 12) dX11_met_11 rfl rfl ?_
    refine xg_if h (fun g4 h => ?_)
    refine x_iald (pc' := 13) dX11_met_12 (by decide) rfl (xok_in g4) rfl ?_
    refine x_goto (tgt := 17) dX11_met_13 (by decide) ?_
    obtain rfl := Option.some.inj h
    exact x_iret dX11_met_17 rfl rfl (Nat.le_of_ble_eq_true rfl) rfl
def F_X11_foretellAll_124 (K30 : Int32 → (Nat → Nat → Int32) → (Nat → Nat → Int64) → xRr → Option (xSt)) (v1 : Int32) (hi : Nat → Nat → Int32) (hl : Nat → Nat → Int64) (r : xRr) : Option (xSt) := K30 (v1 + (1)) hi hl r
set_option maxRecDepth 20000 in
set_option maxHeartbeats 2000000 in
theorem r_X11_foretellAll_124 (K30 : Int32 → (Nat → Nat → Int32) → (Nat → Nat → Int64) → xRr → Option (xSt)) (hK30 : ∀ (v1 : Int32) (d2 : Option Value) (d3 : Option Value) (hi : Nat → Nat → Int32) (hl : Nat → Nat → Int64) (r : xRr) (o : xSt), K30 v1 hi hl r = some o → xR (RX11, cX11_foretellAll, 4, false, 0) (5, 0, 0) z 0 0 30 [some (.ref 0), some (.int v1), d2, d3] [] (xhp hi hl r) (xoV o)) (v1 : Int32) (d2 : Option Value) (d3 : Option Value) (hi : Nat → Nat → Int32) (hl : Nat → Nat → Int64) (r : xRr) (o : xSt) (h : F_X11_foretellAll_124 K30 v1 hi hl r = some o) : xR (RX11, cX11_foretellAll, 4, false, 0) (5, 0, 0) z 0 0 124 [some (.ref 0), some (.int v1), d2, d3] [] (xhp hi hl r) (xoV o) := by
  refine x_iinc (pc' := 127) (v := (v1 + (1))) (L' := [some (.ref 0), some (.int (v1 + (1))), d2, d3]) dX11_foretellAll_124 rfl rfl (Nat.le_of_ble_eq_true rfl) rfl rfl ?_
  refine x_goto (tgt := 30) dX11_foretellAll_127 (by decide) ?_
  exact hK30 _ _ _ _ _ _ _ h
def F_X11_foretellAll_30 : Nat → Int32 → (Nat → Nat → Int32) → (Nat → Nat → Int64) → xRr → Option (xSt)
  | 0, _, _, _, _ => none
  | n + 1, v1, hi, hl, r => if (60 : Int32) ≤ v1 then some (hi, hl, r) else xbI (F_X9_nextStep hi hl r) (fun w3 hi3 hl3 r3 => if w3 = ((-20) : Int32) then some (hi3, hl3, r3) else xbI (F_X4_part w3 (0 : Int32) hi3 hl3 r3) (fun w6 hi6 hl6 r6 => xbI (F_X4_part w3 (1 : Int32) hi6 hl6 r6) (fun w8 hi8 hl8 r8 => xbI (F_X9_place w3 (2 : Int32) hi8 hl8 r8) (fun w10 hi10 hl10 r10 => xbI (F_X4_part w3 (3 : Int32) hi10 hl10 r10) (fun w12 hi12 hl12 r12 => xbI (F_X9_place w3 (4 : Int32) hi12 hl12 r12) (fun w14 hi14 hl14 r14 => xbI (F_X5_foretell w6 w8 w10 w12 w14 hi14 hl14 r14) (fun w16 hi16 hl16 r16 => xbP (F_X11_within w16 (0 : Int32) (6 : Int32)) (fun w18 => if w18 = 0 then F_X11_foretellAll_124 (F_X11_foretellAll_30 n) v1 hi16 hl16 r16 else if xok w16 7 = true then F_X11_foretellAll_124 (F_X11_foretellAll_30 n) v1 (xu hi16 89 (Int32.toNatClampNeg w16) ((hi16 89 (Int32.toNatClampNeg w16)) + (1 : Int32))) hl16 r16 else none))))))))
set_option maxRecDepth 20000 in
set_option maxHeartbeats 2000000 in
theorem r_X11_foretellAll_30 : ∀ (n : Nat) (v1 : Int32) (d2 : Option Value) (d3 : Option Value) (hi : Nat → Nat → Int32) (hl : Nat → Nat → Int64) (r : xRr) (o : xSt), F_X11_foretellAll_30 n v1 hi hl r = some o → xR (RX11, cX11_foretellAll, 4, false, 0) (5, 0, 0) z 0 0 30 [some (.ref 0), some (.int v1), d2, d3] [] (xhp hi hl r) (xoV o) := by
  intro n
  induction n with
  | zero =>
    intro v1 d2 d3 hi hl r o h
    have h : none = some o := h
    cases h
  | succ n ih =>
    intro v1 d2 d3 hi hl r o h
    refine x_iload_n (pc' := 31) dX11_foretellAll_30 rfl rfl ?_
    refine x_bipush (pc' := 33) (x := 60) dX11_foretellAll_31 (by decide) rfl ?_
    refine xg_ite h (fun g1 h => ?_) (fun g1 h => ?_)
    · refine x_icmp_ge (tgt := 130) (pc' := 36) dX11_foretellAll_33 (by decide) rfl (fun _ => ?_) (fun hn => absurd g1 hn)
      obtain rfl := Option.some.inj h
      exact x_vret dX11_foretellAll_130 rfl rfl (Nat.le_of_ble_eq_true rfl) rfl
    · refine x_icmp_ge (tgt := 130) (pc' := 36) dX11_foretellAll_33 (by decide) rfl (fun hn => absurd hn g1) (fun _ => ?_)
      refine x_aload_n (pc' := 37) dX11_foretellAll_36 rfl rfl ?_
      refine x_getr (pc' := 40) (t := 33) dX11_foretellAll_37 f_X11_46 (by decide) rfl rfl rfl rfl ?_
      refine xg_bI h (fun w3 hi3 hl3 r3 e2 h => ?_)
      refine x_callV (pc' := 43) (S := []) (As := []) (b' := (3, 0, 0)) dX11_foretellAll_40 l_X11_296 m_X9_nextStep rfl rfl (show 33 < 122 by decide) rfl (Nat.le_of_ble_eq_true rfl) (Nat.le_of_ble_eq_true rfl) (Nat.le_of_ble_eq_true rfl) (Nat.le_of_ble_eq_true rfl) (r_X9_nextStep _ _ _ _ e2) rfl ?_
      refine x_istore_n (pc' := 44) (L' := [some (.ref 0), some (.int v1), some (.int w3), d3]) dX11_foretellAll_43 (Nat.le_of_ble_eq_true rfl) rfl rfl ?_
      refine x_iload_n (pc' := 45) dX11_foretellAll_44 rfl rfl ?_
      refine x_bipush (pc' := 47) (x := (-20)) dX11_foretellAll_45 (by decide) rfl ?_
      refine xg_ite h (fun g4 h => ?_) (fun g4 h => ?_)
      · refine x_icmp_ne (tgt := 51) (pc' := 50) dX11_foretellAll_47 (by decide) rfl (fun hn => absurd g4 hn) (fun _ => ?_)
        obtain rfl := Option.some.inj h
        exact x_vret dX11_foretellAll_50 rfl rfl (Nat.le_of_ble_eq_true rfl) rfl
      · refine x_icmp_ne (tgt := 51) (pc' := 50) dX11_foretellAll_47 (by decide) rfl (fun _ => ?_) (fun hn => absurd hn g4)
        refine x_aload_n (pc' := 52) dX11_foretellAll_51 rfl rfl ?_
        refine x_getr (pc' := 55) (t := 14) dX11_foretellAll_52 f_X11_30 (by decide) rfl rfl rfl rfl ?_
        refine x_aload_n (pc' := 56) dX11_foretellAll_55 rfl rfl ?_
        refine x_getr (pc' := 59) (t := 30) dX11_foretellAll_56 f_X11_37 (by decide) rfl rfl rfl rfl ?_
        refine x_iload_n (pc' := 60) dX11_foretellAll_59 rfl rfl ?_
        refine x_iconst (pc' := 61) (x := 0) dX11_foretellAll_60 (by decide) rfl ?_
        refine xg_bI h (fun w6 hi6 hl6 r6 e5 h => ?_)
        refine x_callV (pc' := 64) (S := [.ref 14]) (As := [.int w3, .int (0 : Int32)]) (b' := (0, 0, 0)) dX11_foretellAll_61 l_X11_227 m_X4_part rfl rfl (show 30 < 122 by decide) rfl (Nat.le_of_ble_eq_true rfl) (Nat.le_of_ble_eq_true rfl) (Nat.le_of_ble_eq_true rfl) (Nat.le_of_ble_eq_true rfl) (r_X4_part _ _ _ _ _ _ e5) rfl ?_
        refine x_aload_n (pc' := 65) dX11_foretellAll_64 rfl rfl ?_
        refine x_getr (pc' := 68) (t := 30) dX11_foretellAll_65 f_X11_37 (by decide) rfl rfl rfl rfl ?_
        refine x_iload_n (pc' := 69) dX11_foretellAll_68 rfl rfl ?_
        refine x_iconst (pc' := 70) (x := 1) dX11_foretellAll_69 (by decide) rfl ?_
        refine xg_bI h (fun w8 hi8 hl8 r8 e7 h => ?_)
        refine x_callV (pc' := 73) (S := [.int w6, .ref 14]) (As := [.int w3, .int (1 : Int32)]) (b' := (0, 0, 0)) dX11_foretellAll_70 l_X11_227 m_X4_part rfl rfl (show 30 < 122 by decide) rfl (Nat.le_of_ble_eq_true rfl) (Nat.le_of_ble_eq_true rfl) (Nat.le_of_ble_eq_true rfl) (Nat.le_of_ble_eq_true rfl) (r_X4_part _ _ _ _ _ _ e7) rfl ?_
        refine x_aload_n (pc' := 74) dX11_foretellAll_73 rfl rfl ?_
        refine x_getr (pc' := 77) (t := 33) dX11_foretellAll_74 f_X11_46 (by decide) rfl rfl rfl rfl ?_
        refine x_iload_n (pc' := 78) dX11_foretellAll_77 rfl rfl ?_
        refine x_iconst (pc' := 79) (x := 2) dX11_foretellAll_78 (by decide) rfl ?_
        refine xg_bI h (fun w10 hi10 hl10 r10 e9 h => ?_)
        refine x_callV (pc' := 82) (S := [.int w8, .int w6, .ref 14]) (As := [.int w3, .int (2 : Int32)]) (b' := (1, 0, 0)) dX11_foretellAll_79 l_X11_299 m_X9_place rfl rfl (show 33 < 122 by decide) rfl (Nat.le_of_ble_eq_true rfl) (Nat.le_of_ble_eq_true rfl) (Nat.le_of_ble_eq_true rfl) (Nat.le_of_ble_eq_true rfl) (r_X9_place _ _ _ _ _ _ e9) rfl ?_
        refine x_aload_n (pc' := 83) dX11_foretellAll_82 rfl rfl ?_
        refine x_getr (pc' := 86) (t := 30) dX11_foretellAll_83 f_X11_37 (by decide) rfl rfl rfl rfl ?_
        refine x_iload_n (pc' := 87) dX11_foretellAll_86 rfl rfl ?_
        refine x_iconst (pc' := 88) (x := 3) dX11_foretellAll_87 (by decide) rfl ?_
        refine xg_bI h (fun w12 hi12 hl12 r12 e11 h => ?_)
        refine x_callV (pc' := 91) (S := [.int w10, .int w8, .int w6, .ref 14]) (As := [.int w3, .int (3 : Int32)]) (b' := (0, 0, 0)) dX11_foretellAll_88 l_X11_227 m_X4_part rfl rfl (show 30 < 122 by decide) rfl (Nat.le_of_ble_eq_true rfl) (Nat.le_of_ble_eq_true rfl) (Nat.le_of_ble_eq_true rfl) (Nat.le_of_ble_eq_true rfl) (r_X4_part _ _ _ _ _ _ e11) rfl ?_
        refine x_aload_n (pc' := 92) dX11_foretellAll_91 rfl rfl ?_
        refine x_getr (pc' := 95) (t := 33) dX11_foretellAll_92 f_X11_46 (by decide) rfl rfl rfl rfl ?_
        refine x_iload_n (pc' := 96) dX11_foretellAll_95 rfl rfl ?_
        refine x_iconst (pc' := 97) (x := 4) dX11_foretellAll_96 (by decide) rfl ?_
        refine xg_bI h (fun w14 hi14 hl14 r14 e13 h => ?_)
        refine x_callV (pc' := 100) (S := [.int w12, .int w10, .int w8, .int w6, .ref 14]) (As := [.int w3, .int (4 : Int32)]) (b' := (1, 0, 0)) dX11_foretellAll_97 l_X11_299 m_X9_place rfl rfl (show 33 < 122 by decide) rfl (Nat.le_of_ble_eq_true rfl) (Nat.le_of_ble_eq_true rfl) (Nat.le_of_ble_eq_true rfl) (Nat.le_of_ble_eq_true rfl) (r_X9_place _ _ _ _ _ _ e13) rfl ?_
        refine xg_bI h (fun w16 hi16 hl16 r16 e15 h => ?_)
        refine x_callV (pc' := 103) (S := []) (As := [.int w6, .int w8, .int w10, .int w12, .int w14]) (b' := (4, 0, 0)) dX11_foretellAll_100 l_X11_305 m_X5_foretell rfl rfl (show 14 < 122 by decide) rfl (Nat.le_of_ble_eq_true rfl) (Nat.le_of_ble_eq_true rfl) (Nat.le_of_ble_eq_true rfl) (Nat.le_of_ble_eq_true rfl) (r_X5_foretell _ _ _ _ _ _ _ _ _ e15) rfl ?_
        refine x_istore_n (pc' := 104) (L' := [some (.ref 0), some (.int v1), some (.int w3), some (.int w16)]) dX11_foretellAll_103 (Nat.le_of_ble_eq_true rfl) rfl rfl ?_
        refine x_iload_n (pc' := 105) dX11_foretellAll_104 rfl rfl ?_
        refine x_iconst (pc' := 106) (x := 0) dX11_foretellAll_105 (by decide) rfl ?_
        refine x_bipush (pc' := 108) (x := 6) dX11_foretellAll_106 (by decide) rfl ?_
        refine xg_bP h (fun w18 e17 h => ?_)
        refine x_callS (pc' := 111) (S := []) (As := [.int w16, .int (0 : Int32), .int (6 : Int32)]) (b' := (0, 0, 0)) dX11_foretellAll_108 l_X11_100 m_X11_within rfl rfl (Nat.le_of_ble_eq_true rfl) (Nat.le_of_ble_eq_true rfl) (Nat.le_of_ble_eq_true rfl) (Nat.le_of_ble_eq_true rfl) (r_X11_within _ _ _ _ _ e17) rfl ?_
        refine xg_ite h (fun g19 h => ?_) (fun g19 h => ?_)
        · refine x_if_eq (tgt := 124) (pc' := 114) dX11_foretellAll_111 (by decide) rfl (fun _ => ?_) (fun hn => absurd g19 hn)
          exact r_X11_foretellAll_124 (F_X11_foretellAll_30 n) ih _ _ _ _ _ _ _ h
        · refine x_if_eq (tgt := 124) (pc' := 114) dX11_foretellAll_111 (by decide) rfl (fun hn => absurd hn g19) (fun _ => ?_)
          refine x_aload_n (pc' := 115) dX11_foretellAll_114 rfl rfl ?_
          refine x_getr (pc' := 118) (t := 89) dX11_foretellAll_115 f_X11_97 (by decide) rfl rfl rfl rfl ?_
          refine x_iload_n (pc' := 119) dX11_foretellAll_118 rfl rfl ?_
          refine x_dup2 (pc' := 120) dX11_foretellAll_119 rfl rfl rfl ?_
          refine xg_if h (fun g20 h => ?_)
          refine x_iald (pc' := 121) dX11_foretellAll_120 (by decide) rfl (xok_in g20) rfl ?_
          refine x_iconst (pc' := 122) (x := 1) dX11_foretellAll_121 (by decide) rfl ?_
          refine x_iadd (pc' := 123) dX11_foretellAll_122 rfl ?_
          refine x_iast (pc' := 124) dX11_foretellAll_123 (by decide) rfl (xok_in g20) rfl ?_
          exact r_X11_foretellAll_124 (F_X11_foretellAll_30 n) ih _ _ _ _ _ _ _ h
def F_X11_foretellAll_2 : Nat → Int32 → (Nat → Nat → Int32) → (Nat → Nat → Int64) → xRr → Option (xSt)
  | 0, _, _, _, _ => none
  | n + 1, v1, hi, hl, r => if (6 : Int32) < v1 then xbV (F_X9_begin hi hl r) (fun hi3 hl3 r3 => F_X11_foretellAll_30 1000000 (0 : Int32) hi3 hl3 r3) else if xok v1 7 = true then (F_X11_foretellAll_2 n) (v1 + (1)) (xu hi 89 (Int32.toNatClampNeg v1) (0 : Int32)) hl r else none
set_option maxRecDepth 20000 in
set_option maxHeartbeats 2000000 in
theorem r_X11_foretellAll_2 : ∀ (n : Nat) (v1 : Int32) (d2 : Option Value) (d3 : Option Value) (hi : Nat → Nat → Int32) (hl : Nat → Nat → Int64) (r : xRr) (o : xSt), F_X11_foretellAll_2 n v1 hi hl r = some o → xR (RX11, cX11_foretellAll, 4, false, 0) (5, 0, 0) z 0 0 2 [some (.ref 0), some (.int v1), d2, d3] [] (xhp hi hl r) (xoV o) := by
  intro n
  induction n with
  | zero =>
    intro v1 d2 d3 hi hl r o h
    have h : none = some o := h
    cases h
  | succ n ih =>
    intro v1 d2 d3 hi hl r o h
    refine x_iload_n (pc' := 3) dX11_foretellAll_2 rfl rfl ?_
    refine x_bipush (pc' := 5) (x := 6) dX11_foretellAll_3 (by decide) rfl ?_
    refine xg_ite h (fun g1 h => ?_) (fun g1 h => ?_)
    · refine x_icmp_gt (tgt := 21) (pc' := 8) dX11_foretellAll_5 (by decide) rfl (fun _ => ?_) (fun hn => absurd g1 hn)
      refine x_aload_n (pc' := 22) dX11_foretellAll_21 rfl rfl ?_
      refine x_getr (pc' := 25) (t := 33) dX11_foretellAll_22 f_X11_46 (by decide) rfl rfl rfl rfl ?_
      refine xg_bV h (fun hi3 hl3 r3 e2 h => ?_)
      refine x_callV (pc' := 28) (S := []) (As := []) (b' := (0, 0, 0)) dX11_foretellAll_25 l_X11_293 m_X9_begin rfl rfl (show 33 < 122 by decide) rfl (Nat.le_of_ble_eq_true rfl) (Nat.le_of_ble_eq_true rfl) (Nat.le_of_ble_eq_true rfl) (Nat.le_of_ble_eq_true rfl) (r_X9_begin _ _ _ _ e2) rfl ?_
      refine x_iconst (pc' := 29) (x := 0) dX11_foretellAll_28 (by decide) rfl ?_
      refine x_istore_n (pc' := 30) (L' := [some (.ref 0), some (.int (0 : Int32)), d2, d3]) dX11_foretellAll_29 (Nat.le_of_ble_eq_true rfl) rfl rfl ?_
      exact r_X11_foretellAll_30 1000000 _ _ _ _ _ _ _ h
    · refine x_icmp_gt (tgt := 21) (pc' := 8) dX11_foretellAll_5 (by decide) rfl (fun hn => absurd hn g1) (fun _ => ?_)
      refine x_aload_n (pc' := 9) dX11_foretellAll_8 rfl rfl ?_
      refine x_getr (pc' := 12) (t := 89) dX11_foretellAll_9 f_X11_97 (by decide) rfl rfl rfl rfl ?_
      refine x_iload_n (pc' := 13) dX11_foretellAll_12 rfl rfl ?_
      refine x_iconst (pc' := 14) (x := 0) dX11_foretellAll_13 (by decide) rfl ?_
      refine xg_if h (fun g4 h => ?_)
      refine x_iast (pc' := 15) dX11_foretellAll_14 (by decide) rfl (xok_in g4) rfl ?_
      refine x_iinc (pc' := 18) (v := (v1 + (1))) (L' := [some (.ref 0), some (.int (v1 + (1))), d2, d3]) dX11_foretellAll_15 rfl rfl (Nat.le_of_ble_eq_true rfl) rfl rfl ?_
      refine x_goto (tgt := 2) dX11_foretellAll_18 (by decide) ?_
      exact ih _ _ _ _ _ _ _ h
def F_X11_foretellAll (hi : Nat → Nat → Int32) (hl : Nat → Nat → Int64) (r : xRr) : Option (xSt) := F_X11_foretellAll_2 1000000 (0 : Int32) hi hl r
set_option maxRecDepth 20000 in
set_option maxHeartbeats 2000000 in
theorem r_X11_foretellAll (hi : Nat → Nat → Int32) (hl : Nat → Nat → Int64) (r : xRr) (o : xSt) (h : F_X11_foretellAll hi hl r = some o) : xM yX11_foretellAll cX11_foretellAll 4 0 (5, 0, 0) z [.ref 0] (xhp hi hl r) (xoV o) := by
  refine x_meth2 (C := RX11) (ini := false) (L := [some (.ref 0), none, none, none]) rfl (by decide) (fun h9 => by cases h9) (by decide) (Nat.le_of_ble_eq_true rfl) rfl ?_
  refine x_iconst (pc' := 1) (x := 0) dX11_foretellAll_0 (by decide) rfl ?_
  refine x_istore_n (pc' := 2) (L' := [some (.ref 0), some (.int (0 : Int32)), none, none]) dX11_foretellAll_1 (Nat.le_of_ble_eq_true rfl) rfl rfl ?_
  exact r_X11_foretellAll_2 1000000 _ _ _ _ _ _ _ h
def F_X11_forecast (v1 : Int32) (hi : Nat → Nat → Int32) (hl : Nat → Nat → Int64) (r : xRr) : Option (Int32 × xSt) := xbP (F_X11_within v1 (0 : Int32) (6 : Int32)) (fun w2 => if w2 = 0 then some (((-1) : Int32), hi, hl, r) else if (hi 30 3) ≤ 0 then xbV (F_X11_foretellAll hi hl r) (fun hi6 hl6 r6 => if xok v1 7 = true then some ((hi6 89 (Int32.toNatClampNeg v1)), hi6, hl6, r6) else none) else some (((-2) : Int32), hi, hl, r))
set_option maxRecDepth 20000 in
set_option maxHeartbeats 2000000 in
theorem r_X11_forecast (v1 : Int32) (hi : Nat → Nat → Int32) (hl : Nat → Nat → Int64) (r : xRr) (o : Int32 × xSt) (h : F_X11_forecast v1 hi hl r = some o) : xM yX11_forecast cX11_forecast 2 1 (6, 0, 0) z [.ref 0, .int v1] (xhp hi hl r) (xoI o) := by
  refine x_meth2 (C := RX11) (ini := false) (L := [some (.ref 0), some (.int v1)]) rfl (by decide) (fun h9 => by cases h9) (by decide) (Nat.le_of_ble_eq_true rfl) rfl ?_
  refine x_iload_n (pc' := 1) dX11_forecast_0 rfl rfl ?_
  refine x_iconst (pc' := 2) (x := 0) dX11_forecast_1 (by decide) rfl ?_
  refine x_bipush (pc' := 4) (x := 6) dX11_forecast_2 (by decide) rfl ?_
  refine xg_bP h (fun w2 e1 h => ?_)
  refine x_callS (pc' := 7) (S := []) (As := [.int v1, .int (0 : Int32), .int (6 : Int32)]) (b' := (0, 0, 0)) dX11_forecast_4 l_X11_100 m_X11_within rfl rfl (Nat.le_of_ble_eq_true rfl) (Nat.le_of_ble_eq_true rfl) (Nat.le_of_ble_eq_true rfl) (Nat.le_of_ble_eq_true rfl) (r_X11_within _ _ _ _ _ e1) rfl ?_
  refine xg_ite h (fun g3 h => ?_) (fun g3 h => ?_)
  · refine x_if_ne (tgt := 12) (pc' := 10) dX11_forecast_7 (by decide) rfl (fun hn => absurd g3 hn) (fun _ => ?_)
    refine x_iconst (pc' := 11) (x := (-1)) dX11_forecast_10 (by decide) rfl ?_
    obtain rfl := Option.some.inj h
    exact x_iret dX11_forecast_11 rfl rfl (Nat.le_of_ble_eq_true rfl) rfl
  · refine x_if_ne (tgt := 12) (pc' := 10) dX11_forecast_7 (by decide) rfl (fun _ => ?_) (fun hn => absurd hn g3)
    refine x_aload_n (pc' := 13) dX11_forecast_12 rfl rfl ?_
    refine x_getr (pc' := 16) (t := 30) dX11_forecast_13 f_X11_37 (by decide) rfl rfl rfl rfl ?_
    refine x_geti (pc' := 19) dX11_forecast_16 f_X11_205 (by decide) rfl rfl rfl ?_
    refine xg_ite h (fun g4 h => ?_) (fun g4 h => ?_)
    · refine x_if_le (tgt := 25) (pc' := 22) dX11_forecast_19 (by decide) rfl (fun _ => ?_) (fun hn => absurd g4 hn)
      refine x_aload_n (pc' := 26) dX11_forecast_25 rfl rfl ?_
      refine xg_bV h (fun hi6 hl6 r6 e5 h => ?_)
      refine x_callV (pc' := 29) (S := []) (As := []) (b' := (5, 0, 0)) dX11_forecast_26 l_X11_230 m_X11_foretellAll rfl rfl (show 0 < 122 by decide) rfl (Nat.le_of_ble_eq_true rfl) (Nat.le_of_ble_eq_true rfl) (Nat.le_of_ble_eq_true rfl) (Nat.le_of_ble_eq_true rfl) (r_X11_foretellAll _ _ _ _ e5) rfl ?_
      refine x_aload_n (pc' := 30) dX11_forecast_29 rfl rfl ?_
      refine x_getr (pc' := 33) (t := 89) dX11_forecast_30 f_X11_97 (by decide) rfl rfl rfl rfl ?_
      refine x_iload_n (pc' := 34) dX11_forecast_33 rfl rfl ?_
      refine xg_if h (fun g7 h => ?_)
      refine x_iald (pc' := 35) dX11_forecast_34 (by decide) rfl (xok_in g7) rfl ?_
      obtain rfl := Option.some.inj h
      exact x_iret dX11_forecast_35 rfl rfl (Nat.le_of_ble_eq_true rfl) rfl
    · refine x_if_le (tgt := 25) (pc' := 22) dX11_forecast_19 (by decide) rfl (fun hn => absurd hn g4) (fun _ => ?_)
      refine x_bipush (pc' := 24) (x := (-2)) dX11_forecast_22 (by decide) rfl ?_
      obtain rfl := Option.some.inj h
      exact x_iret dX11_forecast_24 rfl rfl (Nat.le_of_ble_eq_true rfl) rfl
def F_X11_wave (v1 : Int32) (hi : Nat → Nat → Int32) (hl : Nat → Nat → Int64) (r : xRr) : Option (Int32 × xSt) := xbI (F_X4_has v1 hi hl r) (fun w2 hi2 hl2 r2 => if w2 = 0 then some (((-1) : Int32), hi2, hl2, r2) else xbI (F_X4_turnAnywhere hi2 hl2 r2) (fun w5 hi5 hl5 r5 => if w5 = 0 then xbV (F_X10_find hi5 hl5 r5) (fun hi8 hl8 r8 => xbI (F_X10_waveOf v1 hi8 hl8 r8) (fun w10 hi10 hl10 r10 => some (w10, hi10, hl10, r10))) else some (((-2) : Int32), hi5, hl5, r5)))
set_option maxRecDepth 20000 in
set_option maxHeartbeats 2000000 in
theorem r_X11_wave (v1 : Int32) (hi : Nat → Nat → Int32) (hl : Nat → Nat → Int64) (r : xRr) (o : Int32 × xSt) (h : F_X11_wave v1 hi hl r = some o) : xM yX11_wave cX11_wave 2 1 (3, 0, 0) z [.ref 0, .int v1] (xhp hi hl r) (xoI o) := by
  refine x_meth2 (C := RX11) (ini := false) (L := [some (.ref 0), some (.int v1)]) rfl (by decide) (fun h9 => by cases h9) (by decide) (Nat.le_of_ble_eq_true rfl) rfl ?_
  refine x_aload_n (pc' := 1) dX11_wave_0 rfl rfl ?_
  refine x_getr (pc' := 4) (t := 30) dX11_wave_1 f_X11_37 (by decide) rfl rfl rfl rfl ?_
  refine x_iload_n (pc' := 5) dX11_wave_4 rfl rfl ?_
  refine xg_bI h (fun w2 hi2 hl2 r2 e1 h => ?_)
  refine x_callV (pc' := 8) (S := []) (As := [.int v1]) (b' := (0, 0, 0)) dX11_wave_5 l_X11_226 m_X4_has rfl rfl (show 30 < 122 by decide) rfl (Nat.le_of_ble_eq_true rfl) (Nat.le_of_ble_eq_true rfl) (Nat.le_of_ble_eq_true rfl) (Nat.le_of_ble_eq_true rfl) (r_X4_has _ _ _ _ _ e1) rfl ?_
  refine xg_ite h (fun g3 h => ?_) (fun g3 h => ?_)
  · refine x_if_ne (tgt := 13) (pc' := 11) dX11_wave_8 (by decide) rfl (fun hn => absurd g3 hn) (fun _ => ?_)
    refine x_iconst (pc' := 12) (x := (-1)) dX11_wave_11 (by decide) rfl ?_
    obtain rfl := Option.some.inj h
    exact x_iret dX11_wave_12 rfl rfl (Nat.le_of_ble_eq_true rfl) rfl
  · refine x_if_ne (tgt := 13) (pc' := 11) dX11_wave_8 (by decide) rfl (fun _ => ?_) (fun hn => absurd hn g3)
    refine x_aload_n (pc' := 14) dX11_wave_13 rfl rfl ?_
    refine x_getr (pc' := 17) (t := 30) dX11_wave_14 f_X11_37 (by decide) rfl rfl rfl rfl ?_
    refine xg_bI h (fun w5 hi5 hl5 r5 e4 h => ?_)
    refine x_callV (pc' := 20) (S := []) (As := []) (b' := (1, 0, 0)) dX11_wave_17 l_X11_233 m_X4_turnAnywhere rfl rfl (show 30 < 122 by decide) rfl (Nat.le_of_ble_eq_true rfl) (Nat.le_of_ble_eq_true rfl) (Nat.le_of_ble_eq_true rfl) (Nat.le_of_ble_eq_true rfl) (r_X4_turnAnywhere _ _ _ _ e4) rfl ?_
    refine xg_ite h (fun g6 h => ?_) (fun g6 h => ?_)
    · refine x_if_eq (tgt := 26) (pc' := 23) dX11_wave_20 (by decide) rfl (fun _ => ?_) (fun hn => absurd g6 hn)
      refine x_aload_n (pc' := 27) dX11_wave_26 rfl rfl ?_
      refine x_getr (pc' := 30) (t := 36) dX11_wave_27 f_X11_55 (by decide) rfl rfl rfl rfl ?_
      refine xg_bV h (fun hi8 hl8 r8 e7 h => ?_)
      refine x_callV (pc' := 33) (S := []) (As := []) (b' := (2, 0, 0)) dX11_wave_30 l_X11_237 m_X10_find rfl rfl (show 36 < 122 by decide) rfl (Nat.le_of_ble_eq_true rfl) (Nat.le_of_ble_eq_true rfl) (Nat.le_of_ble_eq_true rfl) (Nat.le_of_ble_eq_true rfl) (r_X10_find _ _ _ _ e7) rfl ?_
      refine x_aload_n (pc' := 34) dX11_wave_33 rfl rfl ?_
      refine x_getr (pc' := 37) (t := 36) dX11_wave_34 f_X11_55 (by decide) rfl rfl rfl rfl ?_
      refine x_iload_n (pc' := 38) dX11_wave_37 rfl rfl ?_
      refine xg_bI h (fun w10 hi10 hl10 r10 e9 h => ?_)
      refine x_callV (pc' := 41) (S := []) (As := [.int v1]) (b' := (0, 0, 0)) dX11_wave_38 l_X11_240 m_X10_waveOf rfl rfl (show 36 < 122 by decide) rfl (Nat.le_of_ble_eq_true rfl) (Nat.le_of_ble_eq_true rfl) (Nat.le_of_ble_eq_true rfl) (Nat.le_of_ble_eq_true rfl) (r_X10_waveOf _ _ _ _ _ e9) rfl ?_
      obtain rfl := Option.some.inj h
      exact x_iret dX11_wave_41 rfl rfl (Nat.le_of_ble_eq_true rfl) rfl
    · refine x_if_eq (tgt := 26) (pc' := 23) dX11_wave_20 (by decide) rfl (fun hn => absurd hn g6) (fun _ => ?_)
      refine x_bipush (pc' := 25) (x := (-2)) dX11_wave_23 (by decide) rfl ?_
      obtain rfl := Option.some.inj h
      exact x_iret dX11_wave_25 rfl rfl (Nat.le_of_ble_eq_true rfl) rfl
def F_X11_reorders (hi : Nat → Nat → Int32) (hl : Nat → Nat → Int64) (r : xRr) : Option (Int32 × xSt) := xbI (F_X4_turnAnywhere hi hl r) (fun w2 hi2 hl2 r2 => if w2 = 0 then xbV (F_X10_find hi2 hl2 r2) (fun hi5 hl5 r5 => xbI (F_X10_sortLines hi5 hl5 r5) (fun w7 hi7 hl7 r7 => some (w7, hi7, hl7, r7))) else some (((-2) : Int32), hi2, hl2, r2))
set_option maxRecDepth 20000 in
set_option maxHeartbeats 2000000 in
theorem r_X11_reorders (hi : Nat → Nat → Int32) (hl : Nat → Nat → Int64) (r : xRr) (o : Int32 × xSt) (h : F_X11_reorders hi hl r = some o) : xM yX11_reorders cX11_reorders 1 1 (3, 0, 0) z [.ref 0] (xhp hi hl r) (xoI o) := by
  refine x_meth2 (C := RX11) (ini := false) (L := [some (.ref 0)]) rfl (by decide) (fun h9 => by cases h9) (by decide) (Nat.le_of_ble_eq_true rfl) rfl ?_
  refine x_aload_n (pc' := 1) dX11_reorders_0 rfl rfl ?_
  refine x_getr (pc' := 4) (t := 30) dX11_reorders_1 f_X11_37 (by decide) rfl rfl rfl rfl ?_
  refine xg_bI h (fun w2 hi2 hl2 r2 e1 h => ?_)
  refine x_callV (pc' := 7) (S := []) (As := []) (b' := (1, 0, 0)) dX11_reorders_4 l_X11_233 m_X4_turnAnywhere rfl rfl (show 30 < 122 by decide) rfl (Nat.le_of_ble_eq_true rfl) (Nat.le_of_ble_eq_true rfl) (Nat.le_of_ble_eq_true rfl) (Nat.le_of_ble_eq_true rfl) (r_X4_turnAnywhere _ _ _ _ e1) rfl ?_
  refine xg_ite h (fun g3 h => ?_) (fun g3 h => ?_)
  · refine x_if_eq (tgt := 13) (pc' := 10) dX11_reorders_7 (by decide) rfl (fun _ => ?_) (fun hn => absurd g3 hn)
    refine x_aload_n (pc' := 14) dX11_reorders_13 rfl rfl ?_
    refine x_getr (pc' := 17) (t := 36) dX11_reorders_14 f_X11_55 (by decide) rfl rfl rfl rfl ?_
    refine xg_bV h (fun hi5 hl5 r5 e4 h => ?_)
    refine x_callV (pc' := 20) (S := []) (As := []) (b' := (2, 0, 0)) dX11_reorders_17 l_X11_237 m_X10_find rfl rfl (show 36 < 122 by decide) rfl (Nat.le_of_ble_eq_true rfl) (Nat.le_of_ble_eq_true rfl) (Nat.le_of_ble_eq_true rfl) (Nat.le_of_ble_eq_true rfl) (r_X10_find _ _ _ _ e4) rfl ?_
    refine x_aload_n (pc' := 21) dX11_reorders_20 rfl rfl ?_
    refine x_getr (pc' := 24) (t := 36) dX11_reorders_21 f_X11_55 (by decide) rfl rfl rfl rfl ?_
    refine xg_bI h (fun w7 hi7 hl7 r7 e6 h => ?_)
    refine x_callV (pc' := 27) (S := []) (As := []) (b' := (2, 0, 0)) dX11_reorders_24 l_X11_243 m_X10_sortLines rfl rfl (show 36 < 122 by decide) rfl (Nat.le_of_ble_eq_true rfl) (Nat.le_of_ble_eq_true rfl) (Nat.le_of_ble_eq_true rfl) (Nat.le_of_ble_eq_true rfl) (r_X10_sortLines _ _ _ _ e6) rfl ?_
    obtain rfl := Option.some.inj h
    exact x_iret dX11_reorders_27 rfl rfl (Nat.le_of_ble_eq_true rfl) rfl
  · refine x_if_eq (tgt := 13) (pc' := 10) dX11_reorders_7 (by decide) rfl (fun hn => absurd hn g3) (fun _ => ?_)
    refine x_bipush (pc' := 12) (x := (-2)) dX11_reorders_10 (by decide) rfl ?_
    obtain rfl := Option.some.inj h
    exact x_iret dX11_reorders_12 rfl rfl (Nat.le_of_ble_eq_true rfl) rfl
def F_X11_joins (v1 : Int32) (v2 : Int32) (hi : Nat → Nat → Int32) (hl : Nat → Nat → Int64) (r : xRr) : Option (Int32 × xSt) := xbI (F_X8_has v1 hi hl r) (fun w2 hi2 hl2 r2 => if w2 = 0 then some (((-1) : Int32), hi2, hl2, r2) else xbI (F_X8_has v2 hi2 hl2 r2) (fun w5 hi5 hl5 r5 => if w5 = 0 then some (((-1) : Int32), hi5, hl5, r5) else if xok v1 8 = true then if xok v2 8 = true then xbP (F_X3_joined (hi5 12 (Int32.toNatClampNeg v1)) (hi5 12 (Int32.toNatClampNeg v2))) (fun w10 => some (w10, hi5, hl5, r5)) else none else none))
set_option maxRecDepth 20000 in
set_option maxHeartbeats 2000000 in
theorem r_X11_joins (v1 : Int32) (v2 : Int32) (hi : Nat → Nat → Int32) (hl : Nat → Nat → Int64) (r : xRr) (o : Int32 × xSt) (h : F_X11_joins v1 v2 hi hl r = some o) : xM yX11_joins cX11_joins 3 1 (1, 0, 0) z [.ref 0, .int v1, .int v2] (xhp hi hl r) (xoI o) := by
  refine x_meth2 (C := RX11) (ini := false) (L := [some (.ref 0), some (.int v1), some (.int v2)]) rfl (by decide) (fun h9 => by cases h9) (by decide) (Nat.le_of_ble_eq_true rfl) rfl ?_
  refine x_aload_n (pc' := 1) dX11_joins_0 rfl rfl ?_
  refine x_getr (pc' := 4) (t := 6) dX11_joins_1 f_X11_21 (by decide) rfl rfl rfl rfl ?_
  refine x_iload_n (pc' := 5) dX11_joins_4 rfl rfl ?_
  refine xg_bI h (fun w2 hi2 hl2 r2 e1 h => ?_)
  refine x_callV (pc' := 8) (S := []) (As := [.int v1]) (b' := (0, 0, 0)) dX11_joins_5 l_X11_116 m_X8_has rfl rfl (show 6 < 122 by decide) rfl (Nat.le_of_ble_eq_true rfl) (Nat.le_of_ble_eq_true rfl) (Nat.le_of_ble_eq_true rfl) (Nat.le_of_ble_eq_true rfl) (r_X8_has _ _ _ _ _ e1) rfl ?_
  refine xg_ite h (fun g3 h => ?_) (fun g3 h => ?_)
  · refine x_if_eq (tgt := 22) (pc' := 11) dX11_joins_8 (by decide) rfl (fun _ => ?_) (fun hn => absurd g3 hn)
    refine x_iconst (pc' := 23) (x := (-1)) dX11_joins_22 (by decide) rfl ?_
    obtain rfl := Option.some.inj h
    exact x_iret dX11_joins_23 rfl rfl (Nat.le_of_ble_eq_true rfl) rfl
  · refine x_if_eq (tgt := 22) (pc' := 11) dX11_joins_8 (by decide) rfl (fun hn => absurd hn g3) (fun _ => ?_)
    refine x_aload_n (pc' := 12) dX11_joins_11 rfl rfl ?_
    refine x_getr (pc' := 15) (t := 6) dX11_joins_12 f_X11_21 (by decide) rfl rfl rfl rfl ?_
    refine x_iload_n (pc' := 16) dX11_joins_15 rfl rfl ?_
    refine xg_bI h (fun w5 hi5 hl5 r5 e4 h => ?_)
    refine x_callV (pc' := 19) (S := []) (As := [.int v2]) (b' := (0, 0, 0)) dX11_joins_16 l_X11_116 m_X8_has rfl rfl (show 6 < 122 by decide) rfl (Nat.le_of_ble_eq_true rfl) (Nat.le_of_ble_eq_true rfl) (Nat.le_of_ble_eq_true rfl) (Nat.le_of_ble_eq_true rfl) (r_X8_has _ _ _ _ _ e4) rfl ?_
    refine xg_ite h (fun g6 h => ?_) (fun g6 h => ?_)
    · refine x_if_ne (tgt := 24) (pc' := 22) dX11_joins_19 (by decide) rfl (fun hn => absurd g6 hn) (fun _ => ?_)
      refine x_iconst (pc' := 23) (x := (-1)) dX11_joins_22 (by decide) rfl ?_
      obtain rfl := Option.some.inj h
      exact x_iret dX11_joins_23 rfl rfl (Nat.le_of_ble_eq_true rfl) rfl
    · refine x_if_ne (tgt := 24) (pc' := 22) dX11_joins_19 (by decide) rfl (fun _ => ?_) (fun hn => absurd hn g6)
      refine x_aload_n (pc' := 25) dX11_joins_24 rfl rfl ?_
      refine x_getr (pc' := 28) (t := 6) dX11_joins_25 f_X11_21 (by decide) rfl rfl rfl rfl ?_
      refine x_getr (pc' := 31) (t := 12) dX11_joins_28 f_X11_246 (by decide) rfl rfl rfl rfl ?_
      refine x_iload_n (pc' := 32) dX11_joins_31 rfl rfl ?_
      refine xg_if h (fun g7 h => ?_)
      refine x_iald (pc' := 33) dX11_joins_32 (by decide) rfl (xok_in g7) rfl ?_
      refine x_aload_n (pc' := 34) dX11_joins_33 rfl rfl ?_
      refine x_getr (pc' := 37) (t := 6) dX11_joins_34 f_X11_21 (by decide) rfl rfl rfl rfl ?_
      refine x_getr (pc' := 40) (t := 12) dX11_joins_37 f_X11_246 (by decide) rfl rfl rfl rfl ?_
      refine x_iload_n (pc' := 41) dX11_joins_40 rfl rfl ?_
      refine xg_if h (fun g8 h => ?_)
      refine x_iald (pc' := 42) dX11_joins_41 (by decide) rfl (xok_in g8) rfl ?_
      refine xg_bP h (fun w10 e9 h => ?_)
      refine x_callS (pc' := 45) (S := []) (As := [.int (hi5 12 (Int32.toNatClampNeg v1)), .int (hi5 12 (Int32.toNatClampNeg v2))]) (b' := (0, 0, 0)) dX11_joins_42 l_X11_247 m_X3_joined rfl rfl (Nat.le_of_ble_eq_true rfl) (Nat.le_of_ble_eq_true rfl) (Nat.le_of_ble_eq_true rfl) (Nat.le_of_ble_eq_true rfl) (r_X3_joined _ _ _ _ e9) rfl ?_
      obtain rfl := Option.some.inj h
      exact x_iret dX11_joins_45 rfl rfl (Nat.le_of_ble_eq_true rfl) rfl
def F_X11_would_99 (s1 : Int32) (s2 : Int32) (hi : Nat → Nat → Int32) (hl : Nat → Nat → Int64) (r : xRr) : Option (Int32 × xSt) := xbI (F_X8_handedDown s1 s2 (8 : Int32) hi hl r) (fun w2 hi2 hl2 r2 => some (w2, hi2, hl2, r2))
set_option maxRecDepth 20000 in
set_option maxHeartbeats 2000000 in
theorem r_X11_would_99 (s1 : Int32) (s2 : Int32) (d1 : Option Value) (d2 : Option Value) (d3 : Option Value) (hi : Nat → Nat → Int32) (hl : Nat → Nat → Int64) (r : xRr) (o : Int32 × xSt) (h : F_X11_would_99 s1 s2 hi hl r = some o) : xR (RX11, cX11_would, 4, false, 1) (2, 0, 0) z 0 0 99 [some (.ref 0), d1, d2, d3] [.int s2, .int s1, .ref 6] (xhp hi hl r) (xoI o) := by
  refine x_bipush (pc' := 101) (x := 8) dX11_would_99 (by decide) rfl ?_
  refine xg_bI h (fun w2 hi2 hl2 r2 e1 h => ?_)
  refine x_callV (pc' := 104) (S := []) (As := [.int s1, .int s2, .int (8 : Int32)]) (b' := (1, 0, 0)) dX11_would_101 l_X11_253 m_X8_handedDown rfl rfl (show 6 < 122 by decide) rfl (Nat.le_of_ble_eq_true rfl) (Nat.le_of_ble_eq_true rfl) (Nat.le_of_ble_eq_true rfl) (Nat.le_of_ble_eq_true rfl) (r_X8_handedDown _ _ _ _ _ _ _ e1) rfl ?_
  obtain rfl := Option.some.inj h
  exact x_iret dX11_would_104 rfl rfl (Nat.le_of_ble_eq_true rfl) rfl
def F_X11_would_43 (v1 : Int32) (v2 : Int32) (v3 : Int32) (s0 : Int32) (s1 : Int32) (s2 : Int32) (hi : Nat → Nat → Int32) (hl : Nat → Nat → Int64) (r : xRr) : Option (Int32 × xSt) := xbP (F_X11_within s0 s1 s2) (fun w2 => if w2 = 0 then some (((-1) : Int32), hi, hl, r) else if v2 = 0 then xbI (F_X8_takenUp v1 v3 (1 : Int32) hi hl r) (fun w6 hi6 hl6 r6 => some (w6, hi6, hl6, r6)) else if v2 = (1 : Int32) then xbI (F_X8_handedDown v1 v3 v3 hi hl r) (fun w9 hi9 hl9 r9 => some (w9, hi9, hl9, r9)) else if v3 = (8 : Int32) then F_X11_would_99 v1 (10 : Int32) hi hl r else F_X11_would_99 v1 v3 hi hl r)
set_option maxRecDepth 20000 in
set_option maxHeartbeats 2000000 in
theorem r_X11_would_43 (v1 : Int32) (v2 : Int32) (v3 : Int32) (s0 : Int32) (s1 : Int32) (s2 : Int32) (hi : Nat → Nat → Int32) (hl : Nat → Nat → Int64) (r : xRr) (o : Int32 × xSt) (h : F_X11_would_43 v1 v2 v3 s0 s1 s2 hi hl r = some o) : xR (RX11, cX11_would, 4, false, 1) (2, 0, 0) z 0 0 43 [some (.ref 0), some (.int v1), some (.int v2), some (.int v3)] [.int s2, .int s1, .int s0] (xhp hi hl r) (xoI o) := by
  refine xg_bP h (fun w2 e1 h => ?_)
  refine x_callS (pc' := 46) (S := []) (As := [.int s0, .int s1, .int s2]) (b' := (0, 0, 0)) dX11_would_43 l_X11_100 m_X11_within rfl rfl (Nat.le_of_ble_eq_true rfl) (Nat.le_of_ble_eq_true rfl) (Nat.le_of_ble_eq_true rfl) (Nat.le_of_ble_eq_true rfl) (r_X11_within _ _ _ _ _ e1) rfl ?_
  refine xg_ite h (fun g3 h => ?_) (fun g3 h => ?_)
  · refine x_if_ne (tgt := 51) (pc' := 49) dX11_would_46 (by decide) rfl (fun hn => absurd g3 hn) (fun _ => ?_)
    refine x_iconst (pc' := 50) (x := (-1)) dX11_would_49 (by decide) rfl ?_
    obtain rfl := Option.some.inj h
    exact x_iret dX11_would_50 rfl rfl (Nat.le_of_ble_eq_true rfl) rfl
  · refine x_if_ne (tgt := 51) (pc' := 49) dX11_would_46 (by decide) rfl (fun _ => ?_) (fun hn => absurd hn g3)
    refine x_iload_n (pc' := 52) dX11_would_51 rfl rfl ?_
    refine xg_ite h (fun g4 h => ?_) (fun g4 h => ?_)
    · refine x_if_ne (tgt := 66) (pc' := 55) dX11_would_52 (by decide) rfl (fun hn => absurd g4 hn) (fun _ => ?_)
      refine x_aload_n (pc' := 56) dX11_would_55 rfl rfl ?_
      refine x_getr (pc' := 59) (t := 6) dX11_would_56 f_X11_21 (by decide) rfl rfl rfl rfl ?_
      refine x_iload_n (pc' := 60) dX11_would_59 rfl rfl ?_
      refine x_iload_n (pc' := 61) dX11_would_60 rfl rfl ?_
      refine x_iconst (pc' := 62) (x := 1) dX11_would_61 (by decide) rfl ?_
      refine xg_bI h (fun w6 hi6 hl6 r6 e5 h => ?_)
      refine x_callV (pc' := 65) (S := []) (As := [.int v1, .int v3, .int (1 : Int32)]) (b' := (1, 0, 0)) dX11_would_62 l_X11_250 m_X8_takenUp rfl rfl (show 6 < 122 by decide) rfl (Nat.le_of_ble_eq_true rfl) (Nat.le_of_ble_eq_true rfl) (Nat.le_of_ble_eq_true rfl) (Nat.le_of_ble_eq_true rfl) (r_X8_takenUp _ _ _ _ _ _ _ e5) rfl ?_
      obtain rfl := Option.some.inj h
      exact x_iret dX11_would_65 rfl rfl (Nat.le_of_ble_eq_true rfl) rfl
    · refine x_if_ne (tgt := 66) (pc' := 55) dX11_would_52 (by decide) rfl (fun _ => ?_) (fun hn => absurd hn g4)
      refine x_iload_n (pc' := 67) dX11_would_66 rfl rfl ?_
      refine x_iconst (pc' := 68) (x := 1) dX11_would_67 (by decide) rfl ?_
      refine xg_ite h (fun g7 h => ?_) (fun g7 h => ?_)
      · refine x_icmp_ne (tgt := 82) (pc' := 71) dX11_would_68 (by decide) rfl (fun hn => absurd g7 hn) (fun _ => ?_)
        refine x_aload_n (pc' := 72) dX11_would_71 rfl rfl ?_
        refine x_getr (pc' := 75) (t := 6) dX11_would_72 f_X11_21 (by decide) rfl rfl rfl rfl ?_
        refine x_iload_n (pc' := 76) dX11_would_75 rfl rfl ?_
        refine x_iload_n (pc' := 77) dX11_would_76 rfl rfl ?_
        refine x_iload_n (pc' := 78) dX11_would_77 rfl rfl ?_
        refine xg_bI h (fun w9 hi9 hl9 r9 e8 h => ?_)
        refine x_callV (pc' := 81) (S := []) (As := [.int v1, .int v3, .int v3]) (b' := (1, 0, 0)) dX11_would_78 l_X11_253 m_X8_handedDown rfl rfl (show 6 < 122 by decide) rfl (Nat.le_of_ble_eq_true rfl) (Nat.le_of_ble_eq_true rfl) (Nat.le_of_ble_eq_true rfl) (Nat.le_of_ble_eq_true rfl) (r_X8_handedDown _ _ _ _ _ _ _ e8) rfl ?_
        obtain rfl := Option.some.inj h
        exact x_iret dX11_would_81 rfl rfl (Nat.le_of_ble_eq_true rfl) rfl
      · refine x_icmp_ne (tgt := 82) (pc' := 71) dX11_would_68 (by decide) rfl (fun _ => ?_) (fun hn => absurd hn g7)
        refine x_aload_n (pc' := 83) dX11_would_82 rfl rfl ?_
        refine x_getr (pc' := 86) (t := 6) dX11_would_83 f_X11_21 (by decide) rfl rfl rfl rfl ?_
        refine x_iload_n (pc' := 87) dX11_would_86 rfl rfl ?_
        refine x_iload_n (pc' := 88) dX11_would_87 rfl rfl ?_
        refine x_bipush (pc' := 90) (x := 8) dX11_would_88 (by decide) rfl ?_
        refine xg_ite h (fun g10 h => ?_) (fun g10 h => ?_)
        · refine x_icmp_ne (tgt := 98) (pc' := 93) dX11_would_90 (by decide) rfl (fun hn => absurd g10 hn) (fun _ => ?_)
          refine x_bipush (pc' := 95) (x := 10) dX11_would_93 (by decide) rfl ?_
          refine x_goto (tgt := 99) dX11_would_95 (by decide) ?_
          exact r_X11_would_99 _ _ _ _ _ _ _ _ _ h
        · refine x_icmp_ne (tgt := 98) (pc' := 93) dX11_would_90 (by decide) rfl (fun _ => ?_) (fun hn => absurd hn g10)
          refine x_iload_n (pc' := 99) dX11_would_98 rfl rfl ?_
          exact r_X11_would_99 _ _ _ _ _ _ _ _ _ h
def F_X11_would (v1 : Int32) (v2 : Int32) (v3 : Int32) (hi : Nat → Nat → Int32) (hl : Nat → Nat → Int64) (r : xRr) : Option (Int32 × xSt) := xbI (F_X8_has v1 hi hl r) (fun w2 hi2 hl2 r2 => if w2 = 0 then some (((-1) : Int32), hi2, hl2, r2) else xbP (F_X11_within v2 (0 : Int32) (2 : Int32)) (fun w5 => if w5 = 0 then some (((-1) : Int32), hi2, hl2, r2) else if v2 = 0 then F_X11_would_43 v1 v2 v3 v3 (0 : Int32) (8 : Int32) hi2 hl2 r2 else if v2 = (1 : Int32) then F_X11_would_43 v1 v2 v3 v3 (0 : Int32) (7 : Int32) hi2 hl2 r2 else F_X11_would_43 v1 v2 v3 v3 (0 : Int32) (9 : Int32) hi2 hl2 r2))
set_option maxRecDepth 20000 in
set_option maxHeartbeats 2000000 in
theorem r_X11_would (v1 : Int32) (v2 : Int32) (v3 : Int32) (hi : Nat → Nat → Int32) (hl : Nat → Nat → Int64) (r : xRr) (o : Int32 × xSt) (h : F_X11_would v1 v2 v3 hi hl r = some o) : xM yX11_would cX11_would 4 1 (2, 0, 0) z [.ref 0, .int v1, .int v2, .int v3] (xhp hi hl r) (xoI o) := by
  refine x_meth2 (C := RX11) (ini := false) (L := [some (.ref 0), some (.int v1), some (.int v2), some (.int v3)]) rfl (by decide) (fun h9 => by cases h9) (by decide) (Nat.le_of_ble_eq_true rfl) rfl ?_
  refine x_aload_n (pc' := 1) dX11_would_0 rfl rfl ?_
  refine x_getr (pc' := 4) (t := 6) dX11_would_1 f_X11_21 (by decide) rfl rfl rfl rfl ?_
  refine x_iload_n (pc' := 5) dX11_would_4 rfl rfl ?_
  refine xg_bI h (fun w2 hi2 hl2 r2 e1 h => ?_)
  refine x_callV (pc' := 8) (S := []) (As := [.int v1]) (b' := (0, 0, 0)) dX11_would_5 l_X11_116 m_X8_has rfl rfl (show 6 < 122 by decide) rfl (Nat.le_of_ble_eq_true rfl) (Nat.le_of_ble_eq_true rfl) (Nat.le_of_ble_eq_true rfl) (Nat.le_of_ble_eq_true rfl) (r_X8_has _ _ _ _ _ e1) rfl ?_
  refine xg_ite h (fun g3 h => ?_) (fun g3 h => ?_)
  · refine x_if_eq (tgt := 49) (pc' := 11) dX11_would_8 (by decide) rfl (fun _ => ?_) (fun hn => absurd g3 hn)
    refine x_iconst (pc' := 50) (x := (-1)) dX11_would_49 (by decide) rfl ?_
    obtain rfl := Option.some.inj h
    exact x_iret dX11_would_50 rfl rfl (Nat.le_of_ble_eq_true rfl) rfl
  · refine x_if_eq (tgt := 49) (pc' := 11) dX11_would_8 (by decide) rfl (fun hn => absurd hn g3) (fun _ => ?_)
    refine x_iload_n (pc' := 12) dX11_would_11 rfl rfl ?_
    refine x_iconst (pc' := 13) (x := 0) dX11_would_12 (by decide) rfl ?_
    refine x_iconst (pc' := 14) (x := 2) dX11_would_13 (by decide) rfl ?_
    refine xg_bP h (fun w5 e4 h => ?_)
    refine x_callS (pc' := 17) (S := []) (As := [.int v2, .int (0 : Int32), .int (2 : Int32)]) (b' := (0, 0, 0)) dX11_would_14 l_X11_100 m_X11_within rfl rfl (Nat.le_of_ble_eq_true rfl) (Nat.le_of_ble_eq_true rfl) (Nat.le_of_ble_eq_true rfl) (Nat.le_of_ble_eq_true rfl) (r_X11_within _ _ _ _ _ e4) rfl ?_
    refine xg_ite h (fun g6 h => ?_) (fun g6 h => ?_)
    · refine x_if_eq (tgt := 49) (pc' := 20) dX11_would_17 (by decide) rfl (fun _ => ?_) (fun hn => absurd g6 hn)
      refine x_iconst (pc' := 50) (x := (-1)) dX11_would_49 (by decide) rfl ?_
      obtain rfl := Option.some.inj h
      exact x_iret dX11_would_50 rfl rfl (Nat.le_of_ble_eq_true rfl) rfl
    · refine x_if_eq (tgt := 49) (pc' := 20) dX11_would_17 (by decide) rfl (fun hn => absurd hn g6) (fun _ => ?_)
      refine x_iload_n (pc' := 21) dX11_would_20 rfl rfl ?_
      refine x_iconst (pc' := 22) (x := 0) dX11_would_21 (by decide) rfl ?_
      refine x_iload_n (pc' := 23) dX11_would_22 rfl rfl ?_
      refine xg_ite h (fun g7 h => ?_) (fun g7 h => ?_)
      · refine x_if_ne (tgt := 31) (pc' := 26) dX11_would_23 (by decide) rfl (fun hn => absurd g7 hn) (fun _ => ?_)
        refine x_bipush (pc' := 28) (x := 8) dX11_would_26 (by decide) rfl ?_
        refine x_goto (tgt := 43) dX11_would_28 (by decide) ?_
        exact r_X11_would_43 _ _ _ _ _ _ _ _ _ _ h
      · refine x_if_ne (tgt := 31) (pc' := 26) dX11_would_23 (by decide) rfl (fun _ => ?_) (fun hn => absurd hn g7)
        refine x_iload_n (pc' := 32) dX11_would_31 rfl rfl ?_
        refine x_iconst (pc' := 33) (x := 1) dX11_would_32 (by decide) rfl ?_
        refine xg_ite h (fun g8 h => ?_) (fun g8 h => ?_)
        · refine x_icmp_ne (tgt := 41) (pc' := 36) dX11_would_33 (by decide) rfl (fun hn => absurd g8 hn) (fun _ => ?_)
          refine x_bipush (pc' := 38) (x := 7) dX11_would_36 (by decide) rfl ?_
          refine x_goto (tgt := 43) dX11_would_38 (by decide) ?_
          exact r_X11_would_43 _ _ _ _ _ _ _ _ _ _ h
        · refine x_icmp_ne (tgt := 41) (pc' := 36) dX11_would_33 (by decide) rfl (fun _ => ?_) (fun hn => absurd hn g8)
          refine x_bipush (pc' := 43) (x := 9) dX11_would_41 (by decide) rfl ?_
          exact r_X11_would_43 _ _ _ _ _ _ _ _ _ _ h
def F_X11_shares (v1 : Int32) (v2 : Int32) (hi : Nat → Nat → Int32) (hl : Nat → Nat → Int64) (r : xRr) : Option (Int32 × xSt) := xbI (F_X8_has v1 hi hl r) (fun w2 hi2 hl2 r2 => if w2 = 0 then some (((-1) : Int32), hi2, hl2, r2) else xbI (F_X8_has v2 hi2 hl2 r2) (fun w5 hi5 hl5 r5 => if w5 = 0 then some (((-1) : Int32), hi5, hl5, r5) else xbI (F_X8_shared v1 v2 hi5 hl5 r5) (fun w8 hi8 hl8 r8 => some (w8, hi8, hl8, r8))))
set_option maxRecDepth 20000 in
set_option maxHeartbeats 2000000 in
theorem r_X11_shares (v1 : Int32) (v2 : Int32) (hi : Nat → Nat → Int32) (hl : Nat → Nat → Int64) (r : xRr) (o : Int32 × xSt) (h : F_X11_shares v1 v2 hi hl r = some o) : xM yX11_shares cX11_shares 3 1 (4, 0, 0) z [.ref 0, .int v1, .int v2] (xhp hi hl r) (xoI o) := by
  refine x_meth2 (C := RX11) (ini := false) (L := [some (.ref 0), some (.int v1), some (.int v2)]) rfl (by decide) (fun h9 => by cases h9) (by decide) (Nat.le_of_ble_eq_true rfl) rfl ?_
  refine x_aload_n (pc' := 1) dX11_shares_0 rfl rfl ?_
  refine x_getr (pc' := 4) (t := 6) dX11_shares_1 f_X11_21 (by decide) rfl rfl rfl rfl ?_
  refine x_iload_n (pc' := 5) dX11_shares_4 rfl rfl ?_
  refine xg_bI h (fun w2 hi2 hl2 r2 e1 h => ?_)
  refine x_callV (pc' := 8) (S := []) (As := [.int v1]) (b' := (0, 0, 0)) dX11_shares_5 l_X11_116 m_X8_has rfl rfl (show 6 < 122 by decide) rfl (Nat.le_of_ble_eq_true rfl) (Nat.le_of_ble_eq_true rfl) (Nat.le_of_ble_eq_true rfl) (Nat.le_of_ble_eq_true rfl) (r_X8_has _ _ _ _ _ e1) rfl ?_
  refine xg_ite h (fun g3 h => ?_) (fun g3 h => ?_)
  · refine x_if_eq (tgt := 22) (pc' := 11) dX11_shares_8 (by decide) rfl (fun _ => ?_) (fun hn => absurd g3 hn)
    refine x_iconst (pc' := 23) (x := (-1)) dX11_shares_22 (by decide) rfl ?_
    obtain rfl := Option.some.inj h
    exact x_iret dX11_shares_23 rfl rfl (Nat.le_of_ble_eq_true rfl) rfl
  · refine x_if_eq (tgt := 22) (pc' := 11) dX11_shares_8 (by decide) rfl (fun hn => absurd hn g3) (fun _ => ?_)
    refine x_aload_n (pc' := 12) dX11_shares_11 rfl rfl ?_
    refine x_getr (pc' := 15) (t := 6) dX11_shares_12 f_X11_21 (by decide) rfl rfl rfl rfl ?_
    refine x_iload_n (pc' := 16) dX11_shares_15 rfl rfl ?_
    refine xg_bI h (fun w5 hi5 hl5 r5 e4 h => ?_)
    refine x_callV (pc' := 19) (S := []) (As := [.int v2]) (b' := (0, 0, 0)) dX11_shares_16 l_X11_116 m_X8_has rfl rfl (show 6 < 122 by decide) rfl (Nat.le_of_ble_eq_true rfl) (Nat.le_of_ble_eq_true rfl) (Nat.le_of_ble_eq_true rfl) (Nat.le_of_ble_eq_true rfl) (r_X8_has _ _ _ _ _ e4) rfl ?_
    refine xg_ite h (fun g6 h => ?_) (fun g6 h => ?_)
    · refine x_if_ne (tgt := 24) (pc' := 22) dX11_shares_19 (by decide) rfl (fun hn => absurd g6 hn) (fun _ => ?_)
      refine x_iconst (pc' := 23) (x := (-1)) dX11_shares_22 (by decide) rfl ?_
      obtain rfl := Option.some.inj h
      exact x_iret dX11_shares_23 rfl rfl (Nat.le_of_ble_eq_true rfl) rfl
    · refine x_if_ne (tgt := 24) (pc' := 22) dX11_shares_19 (by decide) rfl (fun _ => ?_) (fun hn => absurd hn g6)
      refine x_aload_n (pc' := 25) dX11_shares_24 rfl rfl ?_
      refine x_getr (pc' := 28) (t := 6) dX11_shares_25 f_X11_21 (by decide) rfl rfl rfl rfl ?_
      refine x_iload_n (pc' := 29) dX11_shares_28 rfl rfl ?_
      refine x_iload_n (pc' := 30) dX11_shares_29 rfl rfl ?_
      refine xg_bI h (fun w8 hi8 hl8 r8 e7 h => ?_)
      refine x_callV (pc' := 33) (S := []) (As := [.int v1, .int v2]) (b' := (3, 0, 0)) dX11_shares_30 l_X11_257 m_X8_shared rfl rfl (show 6 < 122 by decide) rfl (Nat.le_of_ble_eq_true rfl) (Nat.le_of_ble_eq_true rfl) (Nat.le_of_ble_eq_true rfl) (Nat.le_of_ble_eq_true rfl) (r_X8_shared _ _ _ _ _ _ e7) rfl ?_
      obtain rfl := Option.some.inj h
      exact x_iret dX11_shares_33 rfl rfl (Nat.le_of_ble_eq_true rfl) rfl
def F_X11_safe_58 (s0 : Int32) (s1 : Int32) (hi : Nat → Nat → Int32) (hl : Nat → Nat → Int64) (r : xRr) : Option (Int32 × xSt) := some ((s0 + s1), hi, hl, r)
set_option maxRecDepth 20000 in
set_option maxHeartbeats 2000000 in
theorem r_X11_safe_58 (s0 : Int32) (s1 : Int32) (d1 : Option Value) (d2 : Option Value) (hi : Nat → Nat → Int32) (hl : Nat → Nat → Int64) (r : xRr) (o : Int32 × xSt) (h : F_X11_safe_58 s0 s1 hi hl r = some o) : xR (RX11, cX11_safe, 3, false, 1) (4, 0, 0) z 0 0 58 [some (.ref 0), d1, d2] [.int s1, .int s0] (xhp hi hl r) (xoI o) := by
  refine x_iadd (pc' := 59) dX11_safe_58 rfl ?_
  obtain rfl := Option.some.inj h
  exact x_iret dX11_safe_59 rfl rfl (Nat.le_of_ble_eq_true rfl) rfl
def F_X11_safe_41 (v1 : Int32) (v2 : Int32) (s0 : Int32) (hi : Nat → Nat → Int32) (hl : Nat → Nat → Int64) (r : xRr) : Option (Int32 × xSt) := xbI (F_X8_safeDownward v1 v2 hi hl r) (fun w2 hi2 hl2 r2 => if w2 = 0 then F_X11_safe_58 s0 (0 : Int32) hi2 hl2 r2 else F_X11_safe_58 s0 (2 : Int32) hi2 hl2 r2)
set_option maxRecDepth 20000 in
set_option maxHeartbeats 2000000 in
theorem r_X11_safe_41 (v1 : Int32) (v2 : Int32) (s0 : Int32) (hi : Nat → Nat → Int32) (hl : Nat → Nat → Int64) (r : xRr) (o : Int32 × xSt) (h : F_X11_safe_41 v1 v2 s0 hi hl r = some o) : xR (RX11, cX11_safe, 3, false, 1) (4, 0, 0) z 0 0 41 [some (.ref 0), some (.int v1), some (.int v2)] [.int s0] (xhp hi hl r) (xoI o) := by
  refine x_aload_n (pc' := 42) dX11_safe_41 rfl rfl ?_
  refine x_getr (pc' := 45) (t := 6) dX11_safe_42 f_X11_21 (by decide) rfl rfl rfl rfl ?_
  refine x_iload_n (pc' := 46) dX11_safe_45 rfl rfl ?_
  refine x_iload_n (pc' := 47) dX11_safe_46 rfl rfl ?_
  refine xg_bI h (fun w2 hi2 hl2 r2 e1 h => ?_)
  refine x_callV (pc' := 50) (S := [.int s0]) (As := [.int v1, .int v2]) (b' := (3, 0, 0)) dX11_safe_47 l_X11_263 m_X8_safeDownward rfl rfl (show 6 < 122 by decide) rfl (Nat.le_of_ble_eq_true rfl) (Nat.le_of_ble_eq_true rfl) (Nat.le_of_ble_eq_true rfl) (Nat.le_of_ble_eq_true rfl) (r_X8_safeDownward _ _ _ _ _ _ e1) rfl ?_
  refine xg_ite h (fun g3 h => ?_) (fun g3 h => ?_)
  · refine x_if_eq (tgt := 57) (pc' := 53) dX11_safe_50 (by decide) rfl (fun _ => ?_) (fun hn => absurd g3 hn)
    refine x_iconst (pc' := 58) (x := 0) dX11_safe_57 (by decide) rfl ?_
    exact r_X11_safe_58 _ _ _ _ _ _ _ _ h
  · refine x_if_eq (tgt := 57) (pc' := 53) dX11_safe_50 (by decide) rfl (fun hn => absurd hn g3) (fun _ => ?_)
    refine x_iconst (pc' := 54) (x := 2) dX11_safe_53 (by decide) rfl ?_
    refine x_goto (tgt := 58) dX11_safe_54 (by decide) ?_
    exact r_X11_safe_58 _ _ _ _ _ _ _ _ h
def F_X11_safe (v1 : Int32) (v2 : Int32) (hi : Nat → Nat → Int32) (hl : Nat → Nat → Int64) (r : xRr) : Option (Int32 × xSt) := xbI (F_X8_has v1 hi hl r) (fun w2 hi2 hl2 r2 => if w2 = 0 then some (((-1) : Int32), hi2, hl2, r2) else xbI (F_X8_has v2 hi2 hl2 r2) (fun w5 hi5 hl5 r5 => if w5 = 0 then some (((-1) : Int32), hi5, hl5, r5) else xbI (F_X8_safeUpward v1 v2 hi5 hl5 r5) (fun w8 hi8 hl8 r8 => if w8 = 0 then F_X11_safe_41 v1 v2 (0 : Int32) hi8 hl8 r8 else F_X11_safe_41 v1 v2 (1 : Int32) hi8 hl8 r8)))
set_option maxRecDepth 20000 in
set_option maxHeartbeats 2000000 in
theorem r_X11_safe (v1 : Int32) (v2 : Int32) (hi : Nat → Nat → Int32) (hl : Nat → Nat → Int64) (r : xRr) (o : Int32 × xSt) (h : F_X11_safe v1 v2 hi hl r = some o) : xM yX11_safe cX11_safe 3 1 (4, 0, 0) z [.ref 0, .int v1, .int v2] (xhp hi hl r) (xoI o) := by
  refine x_meth2 (C := RX11) (ini := false) (L := [some (.ref 0), some (.int v1), some (.int v2)]) rfl (by decide) (fun h9 => by cases h9) (by decide) (Nat.le_of_ble_eq_true rfl) rfl ?_
  refine x_aload_n (pc' := 1) dX11_safe_0 rfl rfl ?_
  refine x_getr (pc' := 4) (t := 6) dX11_safe_1 f_X11_21 (by decide) rfl rfl rfl rfl ?_
  refine x_iload_n (pc' := 5) dX11_safe_4 rfl rfl ?_
  refine xg_bI h (fun w2 hi2 hl2 r2 e1 h => ?_)
  refine x_callV (pc' := 8) (S := []) (As := [.int v1]) (b' := (0, 0, 0)) dX11_safe_5 l_X11_116 m_X8_has rfl rfl (show 6 < 122 by decide) rfl (Nat.le_of_ble_eq_true rfl) (Nat.le_of_ble_eq_true rfl) (Nat.le_of_ble_eq_true rfl) (Nat.le_of_ble_eq_true rfl) (r_X8_has _ _ _ _ _ e1) rfl ?_
  refine xg_ite h (fun g3 h => ?_) (fun g3 h => ?_)
  · refine x_if_eq (tgt := 22) (pc' := 11) dX11_safe_8 (by decide) rfl (fun _ => ?_) (fun hn => absurd g3 hn)
    refine x_iconst (pc' := 23) (x := (-1)) dX11_safe_22 (by decide) rfl ?_
    obtain rfl := Option.some.inj h
    exact x_iret dX11_safe_23 rfl rfl (Nat.le_of_ble_eq_true rfl) rfl
  · refine x_if_eq (tgt := 22) (pc' := 11) dX11_safe_8 (by decide) rfl (fun hn => absurd hn g3) (fun _ => ?_)
    refine x_aload_n (pc' := 12) dX11_safe_11 rfl rfl ?_
    refine x_getr (pc' := 15) (t := 6) dX11_safe_12 f_X11_21 (by decide) rfl rfl rfl rfl ?_
    refine x_iload_n (pc' := 16) dX11_safe_15 rfl rfl ?_
    refine xg_bI h (fun w5 hi5 hl5 r5 e4 h => ?_)
    refine x_callV (pc' := 19) (S := []) (As := [.int v2]) (b' := (0, 0, 0)) dX11_safe_16 l_X11_116 m_X8_has rfl rfl (show 6 < 122 by decide) rfl (Nat.le_of_ble_eq_true rfl) (Nat.le_of_ble_eq_true rfl) (Nat.le_of_ble_eq_true rfl) (Nat.le_of_ble_eq_true rfl) (r_X8_has _ _ _ _ _ e4) rfl ?_
    refine xg_ite h (fun g6 h => ?_) (fun g6 h => ?_)
    · refine x_if_ne (tgt := 24) (pc' := 22) dX11_safe_19 (by decide) rfl (fun hn => absurd g6 hn) (fun _ => ?_)
      refine x_iconst (pc' := 23) (x := (-1)) dX11_safe_22 (by decide) rfl ?_
      obtain rfl := Option.some.inj h
      exact x_iret dX11_safe_23 rfl rfl (Nat.le_of_ble_eq_true rfl) rfl
    · refine x_if_ne (tgt := 24) (pc' := 22) dX11_safe_19 (by decide) rfl (fun _ => ?_) (fun hn => absurd hn g6)
      refine x_aload_n (pc' := 25) dX11_safe_24 rfl rfl ?_
      refine x_getr (pc' := 28) (t := 6) dX11_safe_25 f_X11_21 (by decide) rfl rfl rfl rfl ?_
      refine x_iload_n (pc' := 29) dX11_safe_28 rfl rfl ?_
      refine x_iload_n (pc' := 30) dX11_safe_29 rfl rfl ?_
      refine xg_bI h (fun w8 hi8 hl8 r8 e7 h => ?_)
      refine x_callV (pc' := 33) (S := []) (As := [.int v1, .int v2]) (b' := (3, 0, 0)) dX11_safe_30 l_X11_260 m_X8_safeUpward rfl rfl (show 6 < 122 by decide) rfl (Nat.le_of_ble_eq_true rfl) (Nat.le_of_ble_eq_true rfl) (Nat.le_of_ble_eq_true rfl) (Nat.le_of_ble_eq_true rfl) (r_X8_safeUpward _ _ _ _ _ _ e7) rfl ?_
      refine xg_ite h (fun g9 h => ?_) (fun g9 h => ?_)
      · refine x_if_eq (tgt := 40) (pc' := 36) dX11_safe_33 (by decide) rfl (fun _ => ?_) (fun hn => absurd g9 hn)
        refine x_iconst (pc' := 41) (x := 0) dX11_safe_40 (by decide) rfl ?_
        exact r_X11_safe_41 _ _ _ _ _ _ _ h
      · refine x_if_eq (tgt := 40) (pc' := 36) dX11_safe_33 (by decide) rfl (fun hn => absurd hn g9) (fun _ => ?_)
        refine x_iconst (pc' := 37) (x := 1) dX11_safe_36 (by decide) rfl ?_
        refine x_goto (tgt := 41) dX11_safe_37 (by decide) ?_
        exact r_X11_safe_41 _ _ _ _ _ _ _ h
def F_X11_sees (v1 : Int32) (v2 : Int32) (hi : Nat → Nat → Int32) (hl : Nat → Nat → Int64) (r : xRr) : Option (Int32 × xSt) := xbP (F_X11_within v1 (0 : Int32) (25 : Int32)) (fun w2 => if w2 = 0 then some (((-1) : Int32), hi, hl, r) else xbP (F_X11_within v2 (0 : Int32) (3 : Int32)) (fun w5 => if w5 = 0 then some (((-1) : Int32), hi, hl, r) else if (hi 83 2) = (6 : Int32) then some (((-3) : Int32), hi, hl, r) else xbI (F_X7_note v1 v2 hi hl r) (fun w9 hi9 hl9 r9 => some (w9, hi9, hl9, r9))))
set_option maxRecDepth 20000 in
set_option maxHeartbeats 2000000 in
theorem r_X11_sees (v1 : Int32) (v2 : Int32) (hi : Nat → Nat → Int32) (hl : Nat → Nat → Int64) (r : xRr) (o : Int32 × xSt) (h : F_X11_sees v1 v2 hi hl r = some o) : xM yX11_sees cX11_sees 3 1 (2, 0, 0) z [.ref 0, .int v1, .int v2] (xhp hi hl r) (xoI o) := by
  refine x_meth2 (C := RX11) (ini := false) (L := [some (.ref 0), some (.int v1), some (.int v2)]) rfl (by decide) (fun h9 => by cases h9) (by decide) (Nat.le_of_ble_eq_true rfl) rfl ?_
  refine x_iload_n (pc' := 1) dX11_sees_0 rfl rfl ?_
  refine x_iconst (pc' := 2) (x := 0) dX11_sees_1 (by decide) rfl ?_
  refine x_bipush (pc' := 4) (x := 25) dX11_sees_2 (by decide) rfl ?_
  refine xg_bP h (fun w2 e1 h => ?_)
  refine x_callS (pc' := 7) (S := []) (As := [.int v1, .int (0 : Int32), .int (25 : Int32)]) (b' := (0, 0, 0)) dX11_sees_4 l_X11_100 m_X11_within rfl rfl (Nat.le_of_ble_eq_true rfl) (Nat.le_of_ble_eq_true rfl) (Nat.le_of_ble_eq_true rfl) (Nat.le_of_ble_eq_true rfl) (r_X11_within _ _ _ _ _ e1) rfl ?_
  refine xg_ite h (fun g3 h => ?_) (fun g3 h => ?_)
  · refine x_if_eq (tgt := 19) (pc' := 10) dX11_sees_7 (by decide) rfl (fun _ => ?_) (fun hn => absurd g3 hn)
    refine x_iconst (pc' := 20) (x := (-1)) dX11_sees_19 (by decide) rfl ?_
    obtain rfl := Option.some.inj h
    exact x_iret dX11_sees_20 rfl rfl (Nat.le_of_ble_eq_true rfl) rfl
  · refine x_if_eq (tgt := 19) (pc' := 10) dX11_sees_7 (by decide) rfl (fun hn => absurd hn g3) (fun _ => ?_)
    refine x_iload_n (pc' := 11) dX11_sees_10 rfl rfl ?_
    refine x_iconst (pc' := 12) (x := 0) dX11_sees_11 (by decide) rfl ?_
    refine x_iconst (pc' := 13) (x := 3) dX11_sees_12 (by decide) rfl ?_
    refine xg_bP h (fun w5 e4 h => ?_)
    refine x_callS (pc' := 16) (S := []) (As := [.int v2, .int (0 : Int32), .int (3 : Int32)]) (b' := (0, 0, 0)) dX11_sees_13 l_X11_100 m_X11_within rfl rfl (Nat.le_of_ble_eq_true rfl) (Nat.le_of_ble_eq_true rfl) (Nat.le_of_ble_eq_true rfl) (Nat.le_of_ble_eq_true rfl) (r_X11_within _ _ _ _ _ e4) rfl ?_
    refine xg_ite h (fun g6 h => ?_) (fun g6 h => ?_)
    · refine x_if_ne (tgt := 21) (pc' := 19) dX11_sees_16 (by decide) rfl (fun hn => absurd g6 hn) (fun _ => ?_)
      refine x_iconst (pc' := 20) (x := (-1)) dX11_sees_19 (by decide) rfl ?_
      obtain rfl := Option.some.inj h
      exact x_iret dX11_sees_20 rfl rfl (Nat.le_of_ble_eq_true rfl) rfl
    · refine x_if_ne (tgt := 21) (pc' := 19) dX11_sees_16 (by decide) rfl (fun _ => ?_) (fun hn => absurd hn g6)
      refine x_aload_n (pc' := 22) dX11_sees_21 rfl rfl ?_
      refine x_getr (pc' := 25) (t := 83) dX11_sees_22 f_X11_76 (by decide) rfl rfl rfl rfl ?_
      refine x_geti (pc' := 28) dX11_sees_25 f_X11_266 (by decide) rfl rfl rfl ?_
      refine x_bipush (pc' := 30) (x := 6) dX11_sees_28 (by decide) rfl ?_
      refine xg_ite h (fun g7 h => ?_) (fun g7 h => ?_)
      · refine x_icmp_ne (tgt := 36) (pc' := 33) dX11_sees_30 (by decide) rfl (fun hn => absurd g7 hn) (fun _ => ?_)
        refine x_bipush (pc' := 35) (x := (-3)) dX11_sees_33 (by decide) rfl ?_
        obtain rfl := Option.some.inj h
        exact x_iret dX11_sees_35 rfl rfl (Nat.le_of_ble_eq_true rfl) rfl
      · refine x_icmp_ne (tgt := 36) (pc' := 33) dX11_sees_30 (by decide) rfl (fun _ => ?_) (fun hn => absurd hn g7)
        refine x_aload_n (pc' := 37) dX11_sees_36 rfl rfl ?_
        refine x_getr (pc' := 40) (t := 83) dX11_sees_37 f_X11_76 (by decide) rfl rfl rfl rfl ?_
        refine x_iload_n (pc' := 41) dX11_sees_40 rfl rfl ?_
        refine x_iload_n (pc' := 42) dX11_sees_41 rfl rfl ?_
        refine xg_bI h (fun w9 hi9 hl9 r9 e8 h => ?_)
        refine x_callV (pc' := 45) (S := []) (As := [.int v1, .int v2]) (b' := (1, 0, 0)) dX11_sees_42 l_X11_269 m_X7_note rfl rfl (show 83 < 122 by decide) rfl (Nat.le_of_ble_eq_true rfl) (Nat.le_of_ble_eq_true rfl) (Nat.le_of_ble_eq_true rfl) (Nat.le_of_ble_eq_true rfl) (r_X7_note _ _ _ _ _ _ e8) rfl ?_
        obtain rfl := Option.some.inj h
        exact x_iret dX11_sees_45 rfl rfl (Nat.le_of_ble_eq_true rfl) rfl
def F_X11_forget (hi : Nat → Nat → Int32) (hl : Nat → Nat → Int64) (r : xRr) : Option (Int32 × xSt) := xbI (F_X7_lose hi hl r) (fun w2 hi2 hl2 r2 => some (w2, hi2, hl2, r2))
set_option maxRecDepth 20000 in
set_option maxHeartbeats 2000000 in
theorem r_X11_forget (hi : Nat → Nat → Int32) (hl : Nat → Nat → Int64) (r : xRr) (o : Int32 × xSt) (h : F_X11_forget hi hl r = some o) : xM yX11_forget cX11_forget 1 1 (1, 0, 0) z [.ref 0] (xhp hi hl r) (xoI o) := by
  refine x_meth2 (C := RX11) (ini := false) (L := [some (.ref 0)]) rfl (by decide) (fun h9 => by cases h9) (by decide) (Nat.le_of_ble_eq_true rfl) rfl ?_
  refine x_aload_n (pc' := 1) dX11_forget_0 rfl rfl ?_
  refine x_getr (pc' := 4) (t := 83) dX11_forget_1 f_X11_76 (by decide) rfl rfl rfl rfl ?_
  refine xg_bI h (fun w2 hi2 hl2 r2 e1 h => ?_)
  refine x_callV (pc' := 7) (S := []) (As := []) (b' := (0, 0, 0)) dX11_forget_4 l_X11_137 m_X7_lose rfl rfl (show 83 < 122 by decide) rfl (Nat.le_of_ble_eq_true rfl) (Nat.le_of_ble_eq_true rfl) (Nat.le_of_ble_eq_true rfl) (Nat.le_of_ble_eq_true rfl) (r_X7_lose _ _ _ _ e1) rfl ?_
  obtain rfl := Option.some.inj h
  exact x_iret dX11_forget_7 rfl rfl (Nat.le_of_ble_eq_true rfl) rfl
def F_X11_unseen (v1 : Int32) (hi : Nat → Nat → Int32) (hl : Nat → Nat → Int64) (r : xRr) : Option (Int32 × xSt) := xbP (F_X11_within v1 (0 : Int32) (1 : Int32)) (fun w2 => if w2 = 0 then some (((-1) : Int32), hi, hl, r) else if v1 = 0 then xbP (F_J6_bitCount_0f7a4 (hi 83 1)) (fun w6 => some (w6, hi, hl, r)) else some ((hi 83 1), hi, hl, r))
set_option maxRecDepth 20000 in
set_option maxHeartbeats 2000000 in
theorem r_X11_unseen (v1 : Int32) (hi : Nat → Nat → Int32) (hl : Nat → Nat → Int64) (r : xRr) (o : Int32 × xSt) (h : F_X11_unseen v1 hi hl r = some o) : xM yX11_unseen cX11_unseen 2 1 (1, 0, 0) z [.ref 0, .int v1] (xhp hi hl r) (xoI o) := by
  refine x_meth2 (C := RX11) (ini := false) (L := [some (.ref 0), some (.int v1)]) rfl (by decide) (fun h9 => by cases h9) (by decide) (Nat.le_of_ble_eq_true rfl) rfl ?_
  refine x_iload_n (pc' := 1) dX11_unseen_0 rfl rfl ?_
  refine x_iconst (pc' := 2) (x := 0) dX11_unseen_1 (by decide) rfl ?_
  refine x_iconst (pc' := 3) (x := 1) dX11_unseen_2 (by decide) rfl ?_
  refine xg_bP h (fun w2 e1 h => ?_)
  refine x_callS (pc' := 6) (S := []) (As := [.int v1, .int (0 : Int32), .int (1 : Int32)]) (b' := (0, 0, 0)) dX11_unseen_3 l_X11_100 m_X11_within rfl rfl (Nat.le_of_ble_eq_true rfl) (Nat.le_of_ble_eq_true rfl) (Nat.le_of_ble_eq_true rfl) (Nat.le_of_ble_eq_true rfl) (r_X11_within _ _ _ _ _ e1) rfl ?_
  refine xg_ite h (fun g3 h => ?_) (fun g3 h => ?_)
  · refine x_if_ne (tgt := 11) (pc' := 9) dX11_unseen_6 (by decide) rfl (fun hn => absurd g3 hn) (fun _ => ?_)
    refine x_iconst (pc' := 10) (x := (-1)) dX11_unseen_9 (by decide) rfl ?_
    obtain rfl := Option.some.inj h
    exact x_iret dX11_unseen_10 rfl rfl (Nat.le_of_ble_eq_true rfl) rfl
  · refine x_if_ne (tgt := 11) (pc' := 9) dX11_unseen_6 (by decide) rfl (fun _ => ?_) (fun hn => absurd hn g3)
    refine x_iload_n (pc' := 12) dX11_unseen_11 rfl rfl ?_
    refine xg_ite h (fun g4 h => ?_) (fun g4 h => ?_)
    · refine x_if_ne (tgt := 28) (pc' := 15) dX11_unseen_12 (by decide) rfl (fun hn => absurd g4 hn) (fun _ => ?_)
      refine x_aload_n (pc' := 16) dX11_unseen_15 rfl rfl ?_
      refine x_getr (pc' := 19) (t := 83) dX11_unseen_16 f_X11_76 (by decide) rfl rfl rfl rfl ?_
      refine x_geti (pc' := 22) dX11_unseen_19 f_X11_272 (by decide) rfl rfl rfl ?_
      refine xg_bP h (fun w6 e5 h => ?_)
      refine x_callS (pc' := 25) (S := []) (As := [.int (hi 83 1)]) (b' := (0, 0, 0)) dX11_unseen_22 l_X11_275 m_J6_bitCount_0f7a4 rfl rfl (Nat.le_of_ble_eq_true rfl) (Nat.le_of_ble_eq_true rfl) (Nat.le_of_ble_eq_true rfl) (Nat.le_of_ble_eq_true rfl) (r_J6_bitCount_0f7a4 _ _ _ e5) rfl ?_
      refine x_goto (tgt := 35) dX11_unseen_25 (by decide) ?_
      obtain rfl := Option.some.inj h
      exact x_iret dX11_unseen_35 rfl rfl (Nat.le_of_ble_eq_true rfl) rfl
    · refine x_if_ne (tgt := 28) (pc' := 15) dX11_unseen_12 (by decide) rfl (fun _ => ?_) (fun hn => absurd hn g4)
      refine x_aload_n (pc' := 29) dX11_unseen_28 rfl rfl ?_
      refine x_getr (pc' := 32) (t := 83) dX11_unseen_29 f_X11_76 (by decide) rfl rfl rfl rfl ?_
      refine x_geti (pc' := 35) dX11_unseen_32 f_X11_272 (by decide) rfl rfl rfl ?_
      obtain rfl := Option.some.inj h
      exact x_iret dX11_unseen_35 rfl rfl (Nat.le_of_ble_eq_true rfl) rfl
def F_X11_fewest (v1 : Int32) (hi : Nat → Nat → Int32) (hl : Nat → Nat → Int64) (r : xRr) : Option (Int32 × xSt) := xbP (F_X11_within v1 (0 : Int32) (1 : Int32)) (fun w2 => if w2 = 0 then some (((-1) : Int32), hi, hl, r) else if v1 = 0 then xbI (F_X7_leastTries hi hl r) (fun w6 hi6 hl6 r6 => some (w6, hi6, hl6, r6)) else xbI (F_X7_firstTry hi hl r) (fun w8 hi8 hl8 r8 => some (w8, hi8, hl8, r8)))
set_option maxRecDepth 20000 in
set_option maxHeartbeats 2000000 in
theorem r_X11_fewest (v1 : Int32) (hi : Nat → Nat → Int32) (hl : Nat → Nat → Int64) (r : xRr) (o : Int32 × xSt) (h : F_X11_fewest v1 hi hl r = some o) : xM yX11_fewest cX11_fewest 2 1 (33, 0, 0) z [.ref 0, .int v1] (xhp hi hl r) (xoI o) := by
  refine x_meth2 (C := RX11) (ini := false) (L := [some (.ref 0), some (.int v1)]) rfl (by decide) (fun h9 => by cases h9) (by decide) (Nat.le_of_ble_eq_true rfl) rfl ?_
  refine x_iload_n (pc' := 1) dX11_fewest_0 rfl rfl ?_
  refine x_iconst (pc' := 2) (x := 0) dX11_fewest_1 (by decide) rfl ?_
  refine x_iconst (pc' := 3) (x := 1) dX11_fewest_2 (by decide) rfl ?_
  refine xg_bP h (fun w2 e1 h => ?_)
  refine x_callS (pc' := 6) (S := []) (As := [.int v1, .int (0 : Int32), .int (1 : Int32)]) (b' := (0, 0, 0)) dX11_fewest_3 l_X11_100 m_X11_within rfl rfl (Nat.le_of_ble_eq_true rfl) (Nat.le_of_ble_eq_true rfl) (Nat.le_of_ble_eq_true rfl) (Nat.le_of_ble_eq_true rfl) (r_X11_within _ _ _ _ _ e1) rfl ?_
  refine xg_ite h (fun g3 h => ?_) (fun g3 h => ?_)
  · refine x_if_ne (tgt := 11) (pc' := 9) dX11_fewest_6 (by decide) rfl (fun hn => absurd g3 hn) (fun _ => ?_)
    refine x_iconst (pc' := 10) (x := (-1)) dX11_fewest_9 (by decide) rfl ?_
    obtain rfl := Option.some.inj h
    exact x_iret dX11_fewest_10 rfl rfl (Nat.le_of_ble_eq_true rfl) rfl
  · refine x_if_ne (tgt := 11) (pc' := 9) dX11_fewest_6 (by decide) rfl (fun _ => ?_) (fun hn => absurd hn g3)
    refine x_iload_n (pc' := 12) dX11_fewest_11 rfl rfl ?_
    refine xg_ite h (fun g4 h => ?_) (fun g4 h => ?_)
    · refine x_if_ne (tgt := 25) (pc' := 15) dX11_fewest_12 (by decide) rfl (fun hn => absurd g4 hn) (fun _ => ?_)
      refine x_aload_n (pc' := 16) dX11_fewest_15 rfl rfl ?_
      refine x_getr (pc' := 19) (t := 83) dX11_fewest_16 f_X11_76 (by decide) rfl rfl rfl rfl ?_
      refine xg_bI h (fun w6 hi6 hl6 r6 e5 h => ?_)
      refine x_callV (pc' := 22) (S := []) (As := []) (b' := (31, 0, 0)) dX11_fewest_19 l_X11_280 m_X7_leastTries rfl rfl (show 83 < 122 by decide) rfl (Nat.le_of_ble_eq_true rfl) (Nat.le_of_ble_eq_true rfl) (Nat.le_of_ble_eq_true rfl) (Nat.le_of_ble_eq_true rfl) (r_X7_leastTries _ _ _ _ e5) rfl ?_
      refine x_goto (tgt := 32) dX11_fewest_22 (by decide) ?_
      obtain rfl := Option.some.inj h
      exact x_iret dX11_fewest_32 rfl rfl (Nat.le_of_ble_eq_true rfl) rfl
    · refine x_if_ne (tgt := 25) (pc' := 15) dX11_fewest_12 (by decide) rfl (fun _ => ?_) (fun hn => absurd hn g4)
      refine x_aload_n (pc' := 26) dX11_fewest_25 rfl rfl ?_
      refine x_getr (pc' := 29) (t := 83) dX11_fewest_26 f_X11_76 (by decide) rfl rfl rfl rfl ?_
      refine xg_bI h (fun w8 hi8 hl8 r8 e7 h => ?_)
      refine x_callV (pc' := 32) (S := []) (As := []) (b' := (32, 0, 0)) dX11_fewest_29 l_X11_283 m_X7_firstTry rfl rfl (show 83 < 122 by decide) rfl (Nat.le_of_ble_eq_true rfl) (Nat.le_of_ble_eq_true rfl) (Nat.le_of_ble_eq_true rfl) (Nat.le_of_ble_eq_true rfl) (r_X7_firstTry _ _ _ _ e7) rfl ?_
      obtain rfl := Option.some.inj h
      exact x_iret dX11_fewest_32 rfl rfl (Nat.le_of_ble_eq_true rfl) rfl
def F_X11_keep (v1 : Int32) (hi : Nat → Nat → Int32) (hl : Nat → Nat → Int64) (r : xRr) : Option (Int32 × xSt) := xbP (F_X11_within v1 (0 : Int32) (1 : Int32)) (fun w2 => if w2 = 0 then some (((-1) : Int32), hi, hl, r) else if xok v1 2 = true then xbO (xhr r 76 (Int32.toNatClampNeg v1)) (fun t5 => if xisO t5 2 = true then xbV (F_X2_record t5 hi hl r) (fun hi8 hl8 r8 => some ((hi8 1 4), hi8, hl8, r8)) else none) else none)
set_option maxRecDepth 20000 in
set_option maxHeartbeats 2000000 in
theorem r_X11_keep (v1 : Int32) (hi : Nat → Nat → Int32) (hl : Nat → Nat → Int64) (r : xRr) (o : Int32 × xSt) (h : F_X11_keep v1 hi hl r = some o) : xM yX11_keep cX11_keep 2 1 (2, 0, 0) z [.ref 0, .int v1] (xhp hi hl r) (xoI o) := by
  refine x_meth2 (C := RX11) (ini := false) (L := [some (.ref 0), some (.int v1)]) rfl (by decide) (fun h9 => by cases h9) (by decide) (Nat.le_of_ble_eq_true rfl) rfl ?_
  refine x_iload_n (pc' := 1) dX11_keep_0 rfl rfl ?_
  refine x_iconst (pc' := 2) (x := 0) dX11_keep_1 (by decide) rfl ?_
  refine x_iconst (pc' := 3) (x := 1) dX11_keep_2 (by decide) rfl ?_
  refine xg_bP h (fun w2 e1 h => ?_)
  refine x_callS (pc' := 6) (S := []) (As := [.int v1, .int (0 : Int32), .int (1 : Int32)]) (b' := (0, 0, 0)) dX11_keep_3 l_X11_100 m_X11_within rfl rfl (Nat.le_of_ble_eq_true rfl) (Nat.le_of_ble_eq_true rfl) (Nat.le_of_ble_eq_true rfl) (Nat.le_of_ble_eq_true rfl) (r_X11_within _ _ _ _ _ e1) rfl ?_
  refine xg_ite h (fun g3 h => ?_) (fun g3 h => ?_)
  · refine x_if_ne (tgt := 11) (pc' := 9) dX11_keep_6 (by decide) rfl (fun hn => absurd g3 hn) (fun _ => ?_)
    refine x_iconst (pc' := 10) (x := (-1)) dX11_keep_9 (by decide) rfl ?_
    obtain rfl := Option.some.inj h
    exact x_iret dX11_keep_10 rfl rfl (Nat.le_of_ble_eq_true rfl) rfl
  · refine x_if_ne (tgt := 11) (pc' := 9) dX11_keep_6 (by decide) rfl (fun _ => ?_) (fun hn => absurd hn g3)
    refine x_aload_n (pc' := 12) dX11_keep_11 rfl rfl ?_
    refine x_getr (pc' := 15) (t := 76) dX11_keep_12 f_X11_68 (by decide) rfl rfl rfl rfl ?_
    refine x_iload_n (pc' := 16) dX11_keep_15 rfl rfl ?_
    refine xg_if h (fun g4 h => ?_)
    refine xg_bO h (fun t5 e6 h => ?_)
    refine x_aald3 (pc' := 17) (t := t5) dX11_keep_16 (by decide) rfl (xok_in g4) e6 rfl ?_
    refine x_aload_n (pc' := 18) dX11_keep_17 rfl rfl ?_
    refine x_getr (pc' := 21) (t := 1) dX11_keep_18 f_X11_12 (by decide) rfl rfl rfl rfl ?_
    refine xg_if h (fun g9 h => ?_)
    refine xg_bV h (fun hi8 hl8 r8 e7 h => ?_)
    refine x_callV (pc' := 24) (S := []) (As := [.ref 1]) (b' := (1, 0, 0)) dX11_keep_21 l_X11_286 m_X2_record rfl rfl (xisO_lt g9) (xisO_sh g9) (Nat.le_of_ble_eq_true rfl) (Nat.le_of_ble_eq_true rfl) (Nat.le_of_ble_eq_true rfl) (Nat.le_of_ble_eq_true rfl) (r_X2_record _ _ _ _ _ e7) rfl ?_
    refine x_aload_n (pc' := 25) dX11_keep_24 rfl rfl ?_
    refine x_getr (pc' := 28) (t := 1) dX11_keep_25 f_X11_12 (by decide) rfl rfl rfl rfl ?_
    refine x_geti (pc' := 31) dX11_keep_28 f_X11_104 (by decide) rfl rfl rfl ?_
    obtain rfl := Option.some.inj h
    exact x_iret dX11_keep_31 rfl rfl (Nat.le_of_ble_eq_true rfl) rfl
def F_X11_back (v1 : Int32) (hi : Nat → Nat → Int32) (hl : Nat → Nat → Int64) (r : xRr) : Option (Int32 × xSt) := xbP (F_X11_within v1 (0 : Int32) (1 : Int32)) (fun w2 => if w2 = 0 then some (((-1) : Int32), hi, hl, r) else if xok v1 2 = true then xbO (xhr r 76 (Int32.toNatClampNeg v1)) (fun t5 => if xisO t5 2 = true then if (hi t5 2) = ((-20) : Int32) then some (((-2) : Int32), hi, hl, r) else xbO (xhr r 76 (Int32.toNatClampNeg v1)) (fun t9 => if xisO t9 2 = true then xbV (F_X2_restore t9 hi hl r) (fun hi12 hl12 r12 => xbV (F_X1_lose hi12 hl12 r12) (fun hi15 hl15 r15 => xbO (xhr r15 76 (Int32.toNatClampNeg v1)) (fun t16 => if xisO t16 2 = true then some ((hi15 t16 2), hi15, hl15, r15) else none))) else none) else none) else none)
set_option maxRecDepth 20000 in
set_option maxHeartbeats 2000000 in
theorem r_X11_back (v1 : Int32) (hi : Nat → Nat → Int32) (hl : Nat → Nat → Int64) (r : xRr) (o : Int32 × xSt) (h : F_X11_back v1 hi hl r = some o) : xM yX11_back cX11_back 2 1 (2, 0, 0) z [.ref 0, .int v1] (xhp hi hl r) (xoI o) := by
  refine x_meth2 (C := RX11) (ini := false) (L := [some (.ref 0), some (.int v1)]) rfl (by decide) (fun h9 => by cases h9) (by decide) (Nat.le_of_ble_eq_true rfl) rfl ?_
  refine x_iload_n (pc' := 1) dX11_back_0 rfl rfl ?_
  refine x_iconst (pc' := 2) (x := 0) dX11_back_1 (by decide) rfl ?_
  refine x_iconst (pc' := 3) (x := 1) dX11_back_2 (by decide) rfl ?_
  refine xg_bP h (fun w2 e1 h => ?_)
  refine x_callS (pc' := 6) (S := []) (As := [.int v1, .int (0 : Int32), .int (1 : Int32)]) (b' := (0, 0, 0)) dX11_back_3 l_X11_100 m_X11_within rfl rfl (Nat.le_of_ble_eq_true rfl) (Nat.le_of_ble_eq_true rfl) (Nat.le_of_ble_eq_true rfl) (Nat.le_of_ble_eq_true rfl) (r_X11_within _ _ _ _ _ e1) rfl ?_
  refine xg_ite h (fun g3 h => ?_) (fun g3 h => ?_)
  · refine x_if_ne (tgt := 11) (pc' := 9) dX11_back_6 (by decide) rfl (fun hn => absurd g3 hn) (fun _ => ?_)
    refine x_iconst (pc' := 10) (x := (-1)) dX11_back_9 (by decide) rfl ?_
    obtain rfl := Option.some.inj h
    exact x_iret dX11_back_10 rfl rfl (Nat.le_of_ble_eq_true rfl) rfl
  · refine x_if_ne (tgt := 11) (pc' := 9) dX11_back_6 (by decide) rfl (fun _ => ?_) (fun hn => absurd hn g3)
    refine x_aload_n (pc' := 12) dX11_back_11 rfl rfl ?_
    refine x_getr (pc' := 15) (t := 76) dX11_back_12 f_X11_68 (by decide) rfl rfl rfl rfl ?_
    refine x_iload_n (pc' := 16) dX11_back_15 rfl rfl ?_
    refine xg_if h (fun g4 h => ?_)
    refine xg_bO h (fun t5 e6 h => ?_)
    refine x_aald3 (pc' := 17) (t := t5) dX11_back_16 (by decide) rfl (xok_in g4) e6 rfl ?_
    refine xg_if h (fun g7 h => ?_)
    refine x_geti (pc' := 20) dX11_back_17 f_X11_289 (xisO_lt g7) (xisO_sh g7) rfl rfl ?_
    refine x_bipush (pc' := 22) (x := (-20)) dX11_back_20 (by decide) rfl ?_
    refine xg_ite h (fun g8 h => ?_) (fun g8 h => ?_)
    · refine x_icmp_ne (tgt := 28) (pc' := 25) dX11_back_22 (by decide) rfl (fun hn => absurd g8 hn) (fun _ => ?_)
      refine x_bipush (pc' := 27) (x := (-2)) dX11_back_25 (by decide) rfl ?_
      obtain rfl := Option.some.inj h
      exact x_iret dX11_back_27 rfl rfl (Nat.le_of_ble_eq_true rfl) rfl
    · refine x_icmp_ne (tgt := 28) (pc' := 25) dX11_back_22 (by decide) rfl (fun _ => ?_) (fun hn => absurd hn g8)
      refine x_aload_n (pc' := 29) dX11_back_28 rfl rfl ?_
      refine x_getr (pc' := 32) (t := 76) dX11_back_29 f_X11_68 (by decide) rfl rfl rfl rfl ?_
      refine x_iload_n (pc' := 33) dX11_back_32 rfl rfl ?_
      refine xg_bO h (fun t9 e10 h => ?_)
      refine x_aald3 (pc' := 34) (t := t9) dX11_back_33 (by decide) rfl (xok_in g4) e10 rfl ?_
      refine x_aload_n (pc' := 35) dX11_back_34 rfl rfl ?_
      refine x_getr (pc' := 38) (t := 1) dX11_back_35 f_X11_12 (by decide) rfl rfl rfl rfl ?_
      refine xg_if h (fun g13 h => ?_)
      refine xg_bV h (fun hi12 hl12 r12 e11 h => ?_)
      refine x_callV (pc' := 41) (S := []) (As := [.ref 1]) (b' := (1, 0, 0)) dX11_back_38 l_X11_290 m_X2_restore rfl rfl (xisO_lt g13) (xisO_sh g13) (Nat.le_of_ble_eq_true rfl) (Nat.le_of_ble_eq_true rfl) (Nat.le_of_ble_eq_true rfl) (Nat.le_of_ble_eq_true rfl) (r_X2_restore _ _ _ _ _ e11) rfl ?_
      refine x_aload_n (pc' := 42) dX11_back_41 rfl rfl ?_
      refine x_getr (pc' := 45) (t := 41) dX11_back_42 f_X11_62 (by decide) rfl rfl rfl rfl ?_
      refine xg_bV h (fun hi15 hl15 r15 e14 h => ?_)
      refine x_callV (pc' := 48) (S := []) (As := []) (b' := (0, 0, 0)) dX11_back_45 l_X11_133 m_X1_lose rfl rfl (show 41 < 122 by decide) rfl (Nat.le_of_ble_eq_true rfl) (Nat.le_of_ble_eq_true rfl) (Nat.le_of_ble_eq_true rfl) (Nat.le_of_ble_eq_true rfl) (r_X1_lose _ _ _ _ e14) rfl ?_
      refine x_aload_n (pc' := 49) dX11_back_48 rfl rfl ?_
      refine x_getr (pc' := 52) (t := 76) dX11_back_49 f_X11_68 (by decide) rfl rfl rfl rfl ?_
      refine x_iload_n (pc' := 53) dX11_back_52 rfl rfl ?_
      refine xg_bO h (fun t16 e17 h => ?_)
      refine x_aald3 (pc' := 54) (t := t16) dX11_back_53 (by decide) rfl (xok_in g4) e17 rfl ?_
      refine xg_if h (fun g18 h => ?_)
      refine x_geti (pc' := 57) dX11_back_54 f_X11_289 (xisO_lt g18) (xisO_sh g18) rfl rfl ?_
      obtain rfl := Option.some.inj h
      exact x_iret dX11_back_57 rfl rfl (Nat.le_of_ble_eq_true rfl) rfl
def F_X11_count (v1 : Int32) (hi : Nat → Nat → Int32) (hl : Nat → Nat → Int64) (r : xRr) : Option (Int32 × xSt) := if v1 = 0 then some ((hi 1 4), hi, hl, r) else if v1 = 1 then some ((hi 6 8), hi, hl, r) else if v1 = 2 then some ((hi 30 2), hi, hl, r) else if v1 = 3 then some ((hi 30 3), hi, hl, r) else if v1 = 4 then some ((hi 83 2), hi, hl, r) else if v1 = 5 then some ((hi 41 3), hi, hl, r) else some (((-1) : Int32), hi, hl, r)
set_option maxRecDepth 20000 in
set_option maxHeartbeats 2000000 in
theorem r_X11_count (v1 : Int32) (hi : Nat → Nat → Int32) (hl : Nat → Nat → Int64) (r : xRr) (o : Int32 × xSt) (h : F_X11_count v1 hi hl r = some o) : xM yX11_count cX11_count 2 1 (0, 0, 0) z [.ref 0, .int v1] (xhp hi hl r) (xoI o) := by
  refine x_meth2 (C := RX11) (ini := false) (L := [some (.ref 0), some (.int v1)]) rfl (by decide) (fun h9 => by cases h9) (by decide) (Nat.le_of_ble_eq_true rfl) rfl ?_
  refine x_iload_n (pc' := 1) dX11_count_0 rfl rfl ?_
  refine xg_ite h (fun g1 h => ?_) (fun g1 h => ?_)
  · refine x_tabIn (tgt := 40) (off := 39) dX11_count_1 (by rw [g1]; decide) (by rw [g1]; decide) (by rw [g1]; rfl) (by decide) ?_
    refine x_aload_n (pc' := 41) dX11_count_40 rfl rfl ?_
    refine x_getr (pc' := 44) (t := 1) dX11_count_41 f_X11_12 (by decide) rfl rfl rfl rfl ?_
    refine x_geti (pc' := 47) dX11_count_44 f_X11_104 (by decide) rfl rfl rfl ?_
    obtain rfl := Option.some.inj h
    exact x_iret dX11_count_47 rfl rfl (Nat.le_of_ble_eq_true rfl) rfl
  · refine xg_ite h (fun g2 h => ?_) (fun g2 h => ?_)
    · refine x_tabIn (tgt := 48) (off := 47) dX11_count_1 (by rw [g2]; decide) (by rw [g2]; decide) (by rw [g2]; rfl) (by decide) ?_
      refine x_aload_n (pc' := 49) dX11_count_48 rfl rfl ?_
      refine x_getr (pc' := 52) (t := 6) dX11_count_49 f_X11_21 (by decide) rfl rfl rfl rfl ?_
      refine x_geti (pc' := 55) dX11_count_52 f_X11_119 (by decide) rfl rfl rfl ?_
      obtain rfl := Option.some.inj h
      exact x_iret dX11_count_55 rfl rfl (Nat.le_of_ble_eq_true rfl) rfl
    · refine xg_ite h (fun g3 h => ?_) (fun g3 h => ?_)
      · refine x_tabIn (tgt := 56) (off := 55) dX11_count_1 (by rw [g3]; decide) (by rw [g3]; decide) (by rw [g3]; rfl) (by decide) ?_
        refine x_aload_n (pc' := 57) dX11_count_56 rfl rfl ?_
        refine x_getr (pc' := 60) (t := 30) dX11_count_57 f_X11_37 (by decide) rfl rfl rfl rfl ?_
        refine x_geti (pc' := 63) dX11_count_60 f_X11_208 (by decide) rfl rfl rfl ?_
        obtain rfl := Option.some.inj h
        exact x_iret dX11_count_63 rfl rfl (Nat.le_of_ble_eq_true rfl) rfl
      · refine xg_ite h (fun g4 h => ?_) (fun g4 h => ?_)
        · refine x_tabIn (tgt := 64) (off := 63) dX11_count_1 (by rw [g4]; decide) (by rw [g4]; decide) (by rw [g4]; rfl) (by decide) ?_
          refine x_aload_n (pc' := 65) dX11_count_64 rfl rfl ?_
          refine x_getr (pc' := 68) (t := 30) dX11_count_65 f_X11_37 (by decide) rfl rfl rfl rfl ?_
          refine x_geti (pc' := 71) dX11_count_68 f_X11_205 (by decide) rfl rfl rfl ?_
          obtain rfl := Option.some.inj h
          exact x_iret dX11_count_71 rfl rfl (Nat.le_of_ble_eq_true rfl) rfl
        · refine xg_ite h (fun g5 h => ?_) (fun g5 h => ?_)
          · refine x_tabIn (tgt := 72) (off := 71) dX11_count_1 (by rw [g5]; decide) (by rw [g5]; decide) (by rw [g5]; rfl) (by decide) ?_
            refine x_aload_n (pc' := 73) dX11_count_72 rfl rfl ?_
            refine x_getr (pc' := 76) (t := 83) dX11_count_73 f_X11_76 (by decide) rfl rfl rfl rfl ?_
            refine x_geti (pc' := 79) dX11_count_76 f_X11_266 (by decide) rfl rfl rfl ?_
            obtain rfl := Option.some.inj h
            exact x_iret dX11_count_79 rfl rfl (Nat.le_of_ble_eq_true rfl) rfl
          · refine xg_ite h (fun g6 h => ?_) (fun g6 h => ?_)
            · refine x_tabIn (tgt := 80) (off := 79) dX11_count_1 (by rw [g6]; decide) (by rw [g6]; decide) (by rw [g6]; rfl) (by decide) ?_
              refine x_aload_n (pc' := 81) dX11_count_80 rfl rfl ?_
              refine x_getr (pc' := 84) (t := 41) dX11_count_81 f_X11_62 (by decide) rfl rfl rfl rfl ?_
              refine x_geti (pc' := 87) dX11_count_84 f_X11_195 (by decide) rfl rfl rfl ?_
              obtain rfl := Option.some.inj h
              exact x_iret dX11_count_87 rfl rfl (Nat.le_of_ble_eq_true rfl) rfl
            · refine x_tabOut (tgt := 88) dX11_count_1 (by have t0 := lv_neT g1 (a := 0) (by decide); have t1 := lv_neT g2 (a := 1) (by decide); have t2 := lv_neT g3 (a := 2) (by decide); have t3 := lv_neT g4 (a := 3) (by decide); have t4 := lv_neT g5 (a := 4) (by decide); have t5 := lv_neT g6 (a := 5) (by decide); omega) (by decide) ?_
              refine x_iconst (pc' := 89) (x := (-1)) dX11_count_88 (by decide) rfl ?_
              obtain rfl := Option.some.inj h
              exact x_iret dX11_count_89 rfl rfl (Nat.le_of_ble_eq_true rfl) rfl
def F_X12_in (v0 : Int64) (v2 : Int64) (v4 : Int64) : Option (Int32) := if (lg_cmp v0 v2) < 0 then some (0 : Int32) else if 0 < (lg_cmp v0 v4) then some (0 : Int32) else some (1 : Int32)
set_option maxRecDepth 20000 in
set_option maxHeartbeats 2000000 in
theorem r_X12_in (v0 : Int64) (v2 : Int64) (v4 : Int64) (H : xHp) (o : Int32) (h : F_X12_in v0 v2 v4 = some o) : xM yX12_in cX12_in 6 3 (0, 0, 0) z [.long v0, .long v2, .long v4] H (some (.int o), H) := by
  refine x_meth2 (C := RX12) (ini := false) (L := [some (.long v0), none, some (.long v2), none, some (.long v4), none]) rfl (by decide) (fun h9 => by cases h9) (by decide) (Nat.le_of_ble_eq_true rfl) rfl ?_
  refine x_lload_n (pc' := 1) dX12_in_0 rfl rfl ?_
  refine x_lload_n (pc' := 2) dX12_in_1 rfl rfl ?_
  refine x_lcmp (pc' := 3) dX12_in_2 rfl ?_
  refine xg_ite h (fun g1 h => ?_) (fun g1 h => ?_)
  · refine x_if_lt (tgt := 17) (pc' := 6) dX12_in_3 (by decide) rfl (fun _ => ?_) (fun hn => absurd g1 hn)
    refine x_iconst (pc' := 18) (x := 0) dX12_in_17 (by decide) rfl ?_
    obtain rfl := Option.some.inj h
    exact x_zret dX12_in_18 rfl (Or.inl rfl) rfl (Nat.le_of_ble_eq_true rfl) rfl
  · refine x_if_lt (tgt := 17) (pc' := 6) dX12_in_3 (by decide) rfl (fun hn => absurd hn g1) (fun _ => ?_)
    refine x_lload_n (pc' := 7) dX12_in_6 rfl rfl ?_
    refine x_lload (pc' := 9) dX12_in_7 rfl rfl ?_
    refine x_lcmp (pc' := 10) dX12_in_9 rfl ?_
    refine xg_ite h (fun g2 h => ?_) (fun g2 h => ?_)
    · refine x_if_gt (tgt := 17) (pc' := 13) dX12_in_10 (by decide) rfl (fun _ => ?_) (fun hn => absurd g2 hn)
      refine x_iconst (pc' := 18) (x := 0) dX12_in_17 (by decide) rfl ?_
      obtain rfl := Option.some.inj h
      exact x_zret dX12_in_18 rfl (Or.inl rfl) rfl (Nat.le_of_ble_eq_true rfl) rfl
    · refine x_if_gt (tgt := 17) (pc' := 13) dX12_in_10 (by decide) rfl (fun hn => absurd hn g2) (fun _ => ?_)
      refine x_iconst (pc' := 14) (x := 1) dX12_in_13 (by decide) rfl ?_
      refine x_goto (tgt := 18) dX12_in_14 (by decide) ?_
      obtain rfl := Option.some.inj h
      exact x_zret dX12_in_18 rfl (Or.inr rfl) rfl (Nat.le_of_ble_eq_true rfl) rfl
def F_X12_bank_112 (K81 : Int32 → Int32 → (Nat → Nat → Int32) → (Nat → Nat → Int64) → xRr → Option (Int32 × xSt)) (v1 : Int32) (v3 : Int32) (s1 : Int32) (s2 : Int32) (hi : Nat → Nat → Int32) (hl : Nat → Nat → Int64) (r : xRr) : Option (Int32 × xSt) := if xok s1 72 = true then if xok v3 72 = true then K81 v1 (v3 + (1)) (xu hi 93 (Int32.toNatClampNeg s1) s2) (xu hl 94 (Int32.toNatClampNeg v3) (0 : Int64)) r else none else none
set_option maxRecDepth 20000 in
set_option maxHeartbeats 2000000 in
theorem r_X12_bank_112 (K81 : Int32 → Int32 → (Nat → Nat → Int32) → (Nat → Nat → Int64) → xRr → Option (Int32 × xSt)) (hK81 : ∀ (v1 : Int32) (v3 : Int32) (d2 : Option Value) (hi : Nat → Nat → Int32) (hl : Nat → Nat → Int64) (r : xRr) (o : Int32 × xSt), K81 v1 v3 hi hl r = some o → xR (RX12, cX12_bank, 4, false, 1) (1, 0, 0) z 0 0 81 [some (.ref 90), some (.int v1), d2, some (.int v3)] [] (xhp hi hl r) (xoI o)) (v1 : Int32) (v3 : Int32) (s1 : Int32) (s2 : Int32) (d2 : Option Value) (hi : Nat → Nat → Int32) (hl : Nat → Nat → Int64) (r : xRr) (o : Int32 × xSt) (h : F_X12_bank_112 K81 v1 v3 s1 s2 hi hl r = some o) : xR (RX12, cX12_bank, 4, false, 1) (1, 0, 0) z 0 0 112 [some (.ref 90), some (.int v1), d2, some (.int v3)] [.int s2, .int s1, .ref 93] (xhp hi hl r) (xoI o) := by
  refine xg_if h (fun g1 h => ?_)
  refine x_iast (pc' := 113) dX12_bank_112 (by decide) rfl (xok_in g1) rfl ?_
  refine x_aload_n (pc' := 114) dX12_bank_113 rfl rfl ?_
  refine x_getr (pc' := 117) (t := 94) dX12_bank_114 f_X12_19 (by decide) rfl rfl rfl rfl ?_
  refine x_iload_n (pc' := 118) dX12_bank_117 rfl rfl ?_
  refine x_lconst (pc' := 119) (x := 0) dX12_bank_118 (by decide) rfl ?_
  refine xg_if h (fun g2 h => ?_)
  refine x_last (pc' := 120) dX12_bank_119 (by decide) rfl (xok_in g2) rfl ?_
  refine x_iinc (pc' := 123) (v := (v3 + (1))) (L' := [some (.ref 90), some (.int v1), (xcl d2), some (.int (v3 + (1)))]) dX12_bank_120 rfl rfl (Nat.le_of_ble_eq_true rfl) rfl rfl ?_
  refine x_goto (tgt := 81) dX12_bank_123 (by decide) ?_
  exact hK81 _ _ _ _ _ _ _ h
def F_X12_bank_81 : Nat → Int32 → Int32 → (Nat → Nat → Int32) → (Nat → Nat → Int64) → xRr → Option (Int32 × xSt)
  | 0, _, _, _, _, _ => none
  | n + 1, v1, v3, hi, hl, r => if (((12 : Int32) * (hi 90 1)) + (12 : Int32)) ≤ v3 then some ((((xu hi 90 1 ((hi 90 1) + (1 : Int32))) 90 1) - (1 : Int32)), (xu hi 90 1 ((hi 90 1) + (1 : Int32))), hl, r) else if (8 : Int32) ≤ v1 then F_X12_bank_112 (F_X12_bank_81 n) v1 v3 v3 (10 : Int32) hi hl r else F_X12_bank_112 (F_X12_bank_81 n) v1 v3 v3 v1 hi hl r
set_option maxRecDepth 20000 in
set_option maxHeartbeats 2000000 in
theorem r_X12_bank_81 : ∀ (n : Nat) (v1 : Int32) (v3 : Int32) (d2 : Option Value) (hi : Nat → Nat → Int32) (hl : Nat → Nat → Int64) (r : xRr) (o : Int32 × xSt), F_X12_bank_81 n v1 v3 hi hl r = some o → xR (RX12, cX12_bank, 4, false, 1) (1, 0, 0) z 0 0 81 [some (.ref 90), some (.int v1), d2, some (.int v3)] [] (xhp hi hl r) (xoI o) := by
  intro n
  induction n with
  | zero =>
    intro v1 v3 d2 hi hl r o h
    have h : none = some o := h
    cases h
  | succ n ih =>
    intro v1 v3 d2 hi hl r o h
    refine x_iload_n (pc' := 82) dX12_bank_81 rfl rfl ?_
    refine x_bipush (pc' := 84) (x := 12) dX12_bank_82 (by decide) rfl ?_
    refine x_aload_n (pc' := 85) dX12_bank_84 rfl rfl ?_
    refine x_geti (pc' := 88) dX12_bank_85 f_X12_140 (by decide) rfl rfl rfl ?_
    refine x_imul (pc' := 89) dX12_bank_88 rfl ?_
    refine x_bipush (pc' := 91) (x := 12) dX12_bank_89 (by decide) rfl ?_
    refine x_iadd (pc' := 92) dX12_bank_91 rfl ?_
    refine xg_ite h (fun g1 h => ?_) (fun g1 h => ?_)
    · refine x_icmp_ge (tgt := 126) (pc' := 95) dX12_bank_92 (by decide) rfl (fun _ => ?_) (fun hn => absurd g1 hn)
      refine x_aload_n (pc' := 127) dX12_bank_126 rfl rfl ?_
      refine x_dup (pc' := 128) dX12_bank_127 rfl rfl ?_
      refine x_geti (pc' := 131) dX12_bank_128 f_X12_140 (by decide) rfl rfl rfl ?_
      refine x_iconst (pc' := 132) (x := 1) dX12_bank_131 (by decide) rfl ?_
      refine x_iadd (pc' := 133) dX12_bank_132 rfl ?_
      refine x_puti (pc' := 136) dX12_bank_133 f_X12_140 (Or.inl rfl) (by decide) rfl rfl rfl ?_
      refine x_aload_n (pc' := 137) dX12_bank_136 rfl rfl ?_
      refine x_geti (pc' := 140) dX12_bank_137 f_X12_140 (by decide) rfl rfl rfl ?_
      refine x_iconst (pc' := 141) (x := 1) dX12_bank_140 (by decide) rfl ?_
      refine x_isub (pc' := 142) dX12_bank_141 rfl ?_
      obtain rfl := Option.some.inj h
      exact x_iret dX12_bank_142 rfl rfl (Nat.le_of_ble_eq_true rfl) rfl
    · refine x_icmp_ge (tgt := 126) (pc' := 95) dX12_bank_92 (by decide) rfl (fun hn => absurd hn g1) (fun _ => ?_)
      refine x_aload_n (pc' := 96) dX12_bank_95 rfl rfl ?_
      refine x_getr (pc' := 99) (t := 93) dX12_bank_96 f_X12_16 (by decide) rfl rfl rfl rfl ?_
      refine x_iload_n (pc' := 100) dX12_bank_99 rfl rfl ?_
      refine x_iload_n (pc' := 101) dX12_bank_100 rfl rfl ?_
      refine x_bipush (pc' := 103) (x := 8) dX12_bank_101 (by decide) rfl ?_
      refine xg_ite h (fun g2 h => ?_) (fun g2 h => ?_)
      · refine x_icmp_ge (tgt := 110) (pc' := 106) dX12_bank_103 (by decide) rfl (fun _ => ?_) (fun hn => absurd g2 hn)
        refine x_bipush (pc' := 112) (x := 10) dX12_bank_110 (by decide) rfl ?_
        exact r_X12_bank_112 (F_X12_bank_81 n) ih _ _ _ _ _ _ _ _ _ h
      · refine x_icmp_ge (tgt := 110) (pc' := 106) dX12_bank_103 (by decide) rfl (fun hn => absurd hn g2) (fun _ => ?_)
        refine x_iload_n (pc' := 107) dX12_bank_106 rfl rfl ?_
        refine x_goto (tgt := 112) dX12_bank_107 (by decide) ?_
        exact r_X12_bank_112 (F_X12_bank_81 n) ih _ _ _ _ _ _ _ _ _ h
def F_X12_bank_72 (v1 : Int32) (s1 : Int32) (s2 : Int32) (hi : Nat → Nat → Int32) (hl : Nat → Nat → Int64) (r : xRr) : Option (Int32 × xSt) := if xok s1 6 = true then F_X12_bank_81 1000000 v1 ((12 : Int32) * ((xu hi 92 (Int32.toNatClampNeg s1) s2) 90 1)) (xu hi 92 (Int32.toNatClampNeg s1) s2) hl r else none
set_option maxRecDepth 20000 in
set_option maxHeartbeats 2000000 in
theorem r_X12_bank_72 (v1 : Int32) (s1 : Int32) (s2 : Int32) (d2 : Option Value) (d3 : Option Value) (hi : Nat → Nat → Int32) (hl : Nat → Nat → Int64) (r : xRr) (o : Int32 × xSt) (h : F_X12_bank_72 v1 s1 s2 hi hl r = some o) : xR (RX12, cX12_bank, 4, false, 1) (1, 0, 0) z 0 0 72 [some (.ref 90), some (.int v1), d2, d3] [.int s2, .int s1, .ref 92] (xhp hi hl r) (xoI o) := by
  refine xg_if h (fun g1 h => ?_)
  refine x_iast (pc' := 73) dX12_bank_72 (by decide) rfl (xok_in g1) rfl ?_
  refine x_bipush (pc' := 75) (x := 12) dX12_bank_73 (by decide) rfl ?_
  refine x_aload_n (pc' := 76) dX12_bank_75 rfl rfl ?_
  refine x_geti (pc' := 79) dX12_bank_76 f_X12_140 (by decide) rfl rfl rfl ?_
  refine x_imul (pc' := 80) dX12_bank_79 rfl ?_
  refine x_istore_n (pc' := 81) (L' := [some (.ref 90), some (.int v1), (xcl d2), some (.int ((12 : Int32) * ((xu hi 92 (Int32.toNatClampNeg s1) s2) 90 1)))]) dX12_bank_80 (Nat.le_of_ble_eq_true rfl) rfl rfl ?_
  exact r_X12_bank_81 1000000 _ _ _ _ _ _ _ h
def F_X12_bank (v1 : Int32) (v2 : Int32) (hi : Nat → Nat → Int32) (hl : Nat → Nat → Int64) (r : xRr) : Option (Int32 × xSt) := xbP (F_X12_in (Int32.toInt64 v1) (0 : Int64) (12 : Int64)) (fun w2 => if w2 = 0 then some (((-1) : Int32), (xu hi 90 0 (0 : Int32)), hl, r) else xbP (F_X12_in (Int32.toInt64 v2) (1 : Int64) (12 : Int64)) (fun w5 => if w5 = 0 then some (((-1) : Int32), (xu hi 90 0 (0 : Int32)), hl, r) else if ((xu hi 90 0 (0 : Int32)) 90 1) = (6 : Int32) then some (((-3) : Int32), (xu hi 90 0 (0 : Int32)), hl, r) else if xok ((xu hi 90 0 (0 : Int32)) 90 1) 6 = true then if v1 ≤ (10 : Int32) then F_X12_bank_72 v1 ((xu (xu hi 90 0 (0 : Int32)) 91 (Int32.toNatClampNeg ((xu hi 90 0 (0 : Int32)) 90 1)) v1) 90 1) v2 (xu (xu hi 90 0 (0 : Int32)) 91 (Int32.toNatClampNeg ((xu hi 90 0 (0 : Int32)) 90 1)) v1) hl r else F_X12_bank_72 v1 ((xu (xu hi 90 0 (0 : Int32)) 91 (Int32.toNatClampNeg ((xu hi 90 0 (0 : Int32)) 90 1)) v1) 90 1) (0 : Int32) (xu (xu hi 90 0 (0 : Int32)) 91 (Int32.toNatClampNeg ((xu hi 90 0 (0 : Int32)) 90 1)) v1) hl r else none))
set_option maxRecDepth 20000 in
set_option maxHeartbeats 2000000 in
theorem r_X12_bank (v1 : Int32) (v2 : Int32) (hi : Nat → Nat → Int32) (hl : Nat → Nat → Int64) (r : xRr) (o : Int32 × xSt) (h : F_X12_bank v1 v2 hi hl r = some o) : xM yX12_bank cX12_bank 4 1 (1, 0, 0) z [.ref 90, .int v1, .int v2] (xhp hi hl r) (xoI o) := by
  refine x_meth2 (C := RX12) (ini := false) (L := [some (.ref 90), some (.int v1), some (.int v2), none]) rfl (by decide) (fun h9 => by cases h9) (by decide) (Nat.le_of_ble_eq_true rfl) rfl ?_
  refine x_aload_n (pc' := 1) dX12_bank_0 rfl rfl ?_
  refine x_iconst (pc' := 2) (x := 0) dX12_bank_1 (by decide) rfl ?_
  refine x_puti (pc' := 5) dX12_bank_2 f_X12_109 (Or.inl rfl) (by decide) rfl rfl rfl ?_
  refine x_iload_n (pc' := 6) dX12_bank_5 rfl rfl ?_
  refine x_i2l (pc' := 7) dX12_bank_6 rfl ?_
  refine x_lconst (pc' := 8) (x := 0) dX12_bank_7 (by decide) rfl ?_
  refine x_ldc2 (pc' := 11) dX12_bank_8 k_X12_146 rfl ?_
  refine xg_bP h (fun w2 e1 h => ?_)
  refine x_callS (pc' := 14) (S := []) (As := [.long (Int32.toInt64 v1), .long (0 : Int64), .long (12 : Int64)]) (b' := (0, 0, 0)) dX12_bank_11 l_X12_118 m_X12_in rfl rfl (Nat.le_of_ble_eq_true rfl) (Nat.le_of_ble_eq_true rfl) (Nat.le_of_ble_eq_true rfl) (Nat.le_of_ble_eq_true rfl) (r_X12_in _ _ _ _ _ e1) rfl ?_
  refine xg_ite h (fun g3 h => ?_) (fun g3 h => ?_)
  · refine x_if_eq (tgt := 29) (pc' := 17) dX12_bank_14 (by decide) rfl (fun _ => ?_) (fun hn => absurd g3 hn)
    refine x_iconst (pc' := 30) (x := (-1)) dX12_bank_29 (by decide) rfl ?_
    obtain rfl := Option.some.inj h
    exact x_iret dX12_bank_30 rfl rfl (Nat.le_of_ble_eq_true rfl) rfl
  · refine x_if_eq (tgt := 29) (pc' := 17) dX12_bank_14 (by decide) rfl (fun hn => absurd hn g3) (fun _ => ?_)
    refine x_iload_n (pc' := 18) dX12_bank_17 rfl rfl ?_
    refine x_i2l (pc' := 19) dX12_bank_18 rfl ?_
    refine x_lconst (pc' := 20) (x := 1) dX12_bank_19 (by decide) rfl ?_
    refine x_ldc2 (pc' := 23) dX12_bank_20 k_X12_146 rfl ?_
    refine xg_bP h (fun w5 e4 h => ?_)
    refine x_callS (pc' := 26) (S := []) (As := [.long (Int32.toInt64 v2), .long (1 : Int64), .long (12 : Int64)]) (b' := (0, 0, 0)) dX12_bank_23 l_X12_118 m_X12_in rfl rfl (Nat.le_of_ble_eq_true rfl) (Nat.le_of_ble_eq_true rfl) (Nat.le_of_ble_eq_true rfl) (Nat.le_of_ble_eq_true rfl) (r_X12_in _ _ _ _ _ e4) rfl ?_
    refine xg_ite h (fun g6 h => ?_) (fun g6 h => ?_)
    · refine x_if_ne (tgt := 31) (pc' := 29) dX12_bank_26 (by decide) rfl (fun hn => absurd g6 hn) (fun _ => ?_)
      refine x_iconst (pc' := 30) (x := (-1)) dX12_bank_29 (by decide) rfl ?_
      obtain rfl := Option.some.inj h
      exact x_iret dX12_bank_30 rfl rfl (Nat.le_of_ble_eq_true rfl) rfl
    · refine x_if_ne (tgt := 31) (pc' := 29) dX12_bank_26 (by decide) rfl (fun _ => ?_) (fun hn => absurd hn g6)
      refine x_aload_n (pc' := 32) dX12_bank_31 rfl rfl ?_
      refine x_geti (pc' := 35) dX12_bank_32 f_X12_140 (by decide) rfl rfl rfl ?_
      refine x_bipush (pc' := 37) (x := 6) dX12_bank_35 (by decide) rfl ?_
      refine xg_ite h (fun g7 h => ?_) (fun g7 h => ?_)
      · refine x_icmp_ne (tgt := 43) (pc' := 40) dX12_bank_37 (by decide) rfl (fun hn => absurd g7 hn) (fun _ => ?_)
        refine x_bipush (pc' := 42) (x := (-3)) dX12_bank_40 (by decide) rfl ?_
        obtain rfl := Option.some.inj h
        exact x_iret dX12_bank_42 rfl rfl (Nat.le_of_ble_eq_true rfl) rfl
      · refine x_icmp_ne (tgt := 43) (pc' := 40) dX12_bank_37 (by decide) rfl (fun _ => ?_) (fun hn => absurd hn g7)
        refine x_aload_n (pc' := 44) dX12_bank_43 rfl rfl ?_
        refine x_getr (pc' := 47) (t := 91) dX12_bank_44 f_X12_7 (by decide) rfl rfl rfl rfl ?_
        refine x_aload_n (pc' := 48) dX12_bank_47 rfl rfl ?_
        refine x_geti (pc' := 51) dX12_bank_48 f_X12_140 (by decide) rfl rfl rfl ?_
        refine x_iload_n (pc' := 52) dX12_bank_51 rfl rfl ?_
        refine xg_if h (fun g8 h => ?_)
        refine x_iast (pc' := 53) dX12_bank_52 (by decide) rfl (xok_in g8) rfl ?_
        refine x_aload_n (pc' := 54) dX12_bank_53 rfl rfl ?_
        refine x_getr (pc' := 57) (t := 92) dX12_bank_54 f_X12_13 (by decide) rfl rfl rfl rfl ?_
        refine x_aload_n (pc' := 58) dX12_bank_57 rfl rfl ?_
        refine x_geti (pc' := 61) dX12_bank_58 f_X12_140 (by decide) rfl rfl rfl ?_
        refine x_iload_n (pc' := 62) dX12_bank_61 rfl rfl ?_
        refine x_bipush (pc' := 64) (x := 10) dX12_bank_62 (by decide) rfl ?_
        refine xg_ite h (fun g9 h => ?_) (fun g9 h => ?_)
        · refine x_icmp_le (tgt := 71) (pc' := 67) dX12_bank_64 (by decide) rfl (fun _ => ?_) (fun hn => absurd g9 hn)
          refine x_iload_n (pc' := 72) dX12_bank_71 rfl rfl ?_
          exact r_X12_bank_72 _ _ _ _ _ _ _ _ _ h
        · refine x_icmp_le (tgt := 71) (pc' := 67) dX12_bank_64 (by decide) rfl (fun hn => absurd hn g9) (fun _ => ?_)
          refine x_iconst (pc' := 68) (x := 0) dX12_bank_67 (by decide) rfl ?_
          refine x_goto (tgt := 72) dX12_bank_68 (by decide) ?_
          exact r_X12_bank_72 _ _ _ _ _ _ _ _ _ h
end
