section
variable {z : xZ}
def F_X12_write (v1 : Int32) (v2 : Int32) (v3 : Int32) (hi : Nat → Nat → Int32) (hl : Nat → Nat → Int64) (r : xRr) : Option (Int32 × xSt) := xbI (F_X12_placeIn v1 v2 hi hl r) (fun w2 hi2 hl2 r2 => if w2 = ((-1000) : Int32) then some (((-4) : Int32), hi2, hl2, r2) else xbI (F_X12_sink v1 v3 w2 hi2 hl2 r2) (fun w5 hi5 hl5 r5 => xbI (F_X12_bankOf v1 hi5 hl5 r5) (fun w7 hi7 hl7 r7 => some (w5, (xu hi7 90 33 (((12 : Int32) * w7) + w2)), hl7, r7))))
set_option maxRecDepth 20000 in
set_option maxHeartbeats 2000000 in
theorem r_X12_write (v1 : Int32) (v2 : Int32) (v3 : Int32) (hi : Nat → Nat → Int32) (hl : Nat → Nat → Int64) (r : xRr) (o : Int32 × xSt) (h : F_X12_write v1 v2 v3 hi hl r = some o) : xM yX12_write cX12_write 6 1 (4, 0, 0) z [.ref 90, .int v1, .int v2, .int v3] (xhp hi hl r) (xoI o) := by
  refine x_meth2 (C := RX12) (ini := false) (L := [some (.ref 90), some (.int v1), some (.int v2), some (.int v3), none, none]) rfl (by decide) (fun h9 => by cases h9) (by decide) (Nat.le_of_ble_eq_true rfl) rfl ?_
  refine x_aload_n (pc' := 1) dX12_write_0 rfl rfl ?_
  refine x_iload_n (pc' := 2) dX12_write_1 rfl rfl ?_
  refine x_iload_n (pc' := 3) dX12_write_2 rfl rfl ?_
  refine xg_bI h (fun w2 hi2 hl2 r2 e1 h => ?_)
  refine x_callV (pc' := 6) (S := []) (As := [.int v1, .int v2]) (b' := (1, 0, 0)) dX12_write_3 l_X12_209 m_X12_placeIn rfl rfl (show 90 < 122 by decide) rfl (Nat.le_of_ble_eq_true rfl) (Nat.le_of_ble_eq_true rfl) (Nat.le_of_ble_eq_true rfl) (Nat.le_of_ble_eq_true rfl) (r_X12_placeIn _ _ _ _ _ _ e1) rfl ?_
  refine x_istore (pc' := 8) (L' := [some (.ref 90), some (.int v1), some (.int v2), some (.int v3), some (.int w2), none]) dX12_write_6 (Nat.le_of_ble_eq_true rfl) rfl rfl ?_
  refine x_iload (pc' := 10) dX12_write_8 rfl rfl ?_
  refine x_sipush (pc' := 13) (x := (-1000)) dX12_write_10 (by decide) rfl ?_
  refine xg_ite h (fun g3 h => ?_) (fun g3 h => ?_)
  · refine x_icmp_ne (tgt := 19) (pc' := 16) dX12_write_13 (by decide) rfl (fun hn => absurd g3 hn) (fun _ => ?_)
    refine x_bipush (pc' := 18) (x := (-4)) dX12_write_16 (by decide) rfl ?_
    obtain rfl := Option.some.inj h
    exact x_iret dX12_write_18 rfl rfl (Nat.le_of_ble_eq_true rfl) rfl
  · refine x_icmp_ne (tgt := 19) (pc' := 16) dX12_write_13 (by decide) rfl (fun _ => ?_) (fun hn => absurd hn g3)
    refine x_aload_n (pc' := 20) dX12_write_19 rfl rfl ?_
    refine x_iload_n (pc' := 21) dX12_write_20 rfl rfl ?_
    refine x_iload_n (pc' := 22) dX12_write_21 rfl rfl ?_
    refine x_iload (pc' := 24) dX12_write_22 rfl rfl ?_
    refine xg_bI h (fun w5 hi5 hl5 r5 e4 h => ?_)
    refine x_callV (pc' := 27) (S := []) (As := [.int v1, .int v3, .int w2]) (b' := (3, 0, 0)) dX12_write_24 l_X12_219 m_X12_sink rfl rfl (show 90 < 122 by decide) rfl (Nat.le_of_ble_eq_true rfl) (Nat.le_of_ble_eq_true rfl) (Nat.le_of_ble_eq_true rfl) (Nat.le_of_ble_eq_true rfl) (r_X12_sink _ _ _ _ _ _ _ e4) rfl ?_
    refine x_istore (pc' := 29) (L' := [some (.ref 90), some (.int v1), some (.int v2), some (.int v3), some (.int w2), some (.int w5)]) dX12_write_27 (Nat.le_of_ble_eq_true rfl) rfl rfl ?_
    refine x_aload_n (pc' := 30) dX12_write_29 rfl rfl ?_
    refine x_bipush (pc' := 32) (x := 12) dX12_write_30 (by decide) rfl ?_
    refine x_aload_n (pc' := 33) dX12_write_32 rfl rfl ?_
    refine x_iload_n (pc' := 34) dX12_write_33 rfl rfl ?_
    refine xg_bI h (fun w7 hi7 hl7 r7 e6 h => ?_)
    refine x_callV (pc' := 37) (S := [.int (12 : Int32), .ref 90]) (As := [.int v1]) (b' := (0, 0, 0)) dX12_write_34 l_X12_192 m_X12_bankOf rfl rfl (show 90 < 122 by decide) rfl (Nat.le_of_ble_eq_true rfl) (Nat.le_of_ble_eq_true rfl) (Nat.le_of_ble_eq_true rfl) (Nat.le_of_ble_eq_true rfl) (r_X12_bankOf _ _ _ _ _ e6) rfl ?_
    refine x_imul (pc' := 38) dX12_write_37 rfl ?_
    refine x_iload (pc' := 40) dX12_write_38 rfl rfl ?_
    refine x_iadd (pc' := 41) dX12_write_40 rfl ?_
    refine x_puti (pc' := 44) dX12_write_41 f_X12_222 (Or.inl rfl) (by decide) rfl rfl rfl ?_
    refine x_iload (pc' := 46) dX12_write_44 rfl rfl ?_
    obtain rfl := Option.some.inj h
    exact x_iret dX12_write_46 rfl rfl (Nat.le_of_ble_eq_true rfl) rfl
def F_X12_copy_3 : Nat → Nat → Nat → Int32 → Int32 → (Nat → Nat → Int32) → (Nat → Nat → Int64) → xRr → Option (xSt)
  | 0, _, _, _, _, _, _, _ => none
  | n + 1, v1, v2, v3, v4, hi, hl, r => if (72 : Int32) ≤ v4 then some (hi, hl, r) else if xok v4 72 = true then if xokA v1 0 (v3 + v4) = true then if xokA v2 1 (v3 + v4) = true then (F_X12_copy_3 n) v1 v2 v3 (v4 + (1)) (xu hi v1 (Int32.toNatClampNeg (v3 + v4)) (hi 93 (Int32.toNatClampNeg v4))) (xu hl v2 (Int32.toNatClampNeg (v3 + v4)) (hl 94 (Int32.toNatClampNeg v4))) r else none else none else none
set_option maxRecDepth 20000 in
set_option maxHeartbeats 2000000 in
theorem r_X12_copy_3 : ∀ (n : Nat) (v1 : Nat) (v2 : Nat) (v3 : Int32) (v4 : Int32) (hi : Nat → Nat → Int32) (hl : Nat → Nat → Int64) (r : xRr) (o : xSt), F_X12_copy_3 n v1 v2 v3 v4 hi hl r = some o → xR (RX12, cX12_copy, 5, false, 0) (0, 0, 0) z 0 0 3 [some (.ref 90), some (.ref v1), some (.ref v2), some (.int v3), some (.int v4)] [] (xhp hi hl r) (xoV o) := by
  intro n
  induction n with
  | zero =>
    intro v1 v2 v3 v4 hi hl r o h
    have h : none = some o := h
    cases h
  | succ n ih =>
    intro v1 v2 v3 v4 hi hl r o h
    refine x_iload (pc' := 5) dX12_copy_3 rfl rfl ?_
    refine x_bipush (pc' := 7) (x := 72) dX12_copy_5 (by decide) rfl ?_
    refine xg_ite h (fun g1 h => ?_) (fun g1 h => ?_)
    · refine x_icmp_ge (tgt := 42) (pc' := 10) dX12_copy_7 (by decide) rfl (fun _ => ?_) (fun hn => absurd g1 hn)
      obtain rfl := Option.some.inj h
      exact x_vret dX12_copy_42 rfl rfl (Nat.le_of_ble_eq_true rfl) rfl
    · refine x_icmp_ge (tgt := 42) (pc' := 10) dX12_copy_7 (by decide) rfl (fun hn => absurd hn g1) (fun _ => ?_)
      refine x_aload_n (pc' := 11) dX12_copy_10 rfl rfl ?_
      refine x_iload_n (pc' := 12) dX12_copy_11 rfl rfl ?_
      refine x_iload (pc' := 14) dX12_copy_12 rfl rfl ?_
      refine x_iadd (pc' := 15) dX12_copy_14 rfl ?_
      refine x_aload_n (pc' := 16) dX12_copy_15 rfl rfl ?_
      refine x_getr (pc' := 19) (t := 93) dX12_copy_16 f_X12_16 (by decide) rfl rfl rfl rfl ?_
      refine x_iload (pc' := 21) dX12_copy_19 rfl rfl ?_
      refine xg_if h (fun g2 h => ?_)
      refine x_iald (pc' := 22) dX12_copy_21 (by decide) rfl (xok_in g2) rfl ?_
      refine xg_if h (fun g3 h => ?_)
      refine x_iast (pc' := 23) dX12_copy_22 (xokA_lt g3) (xokA_sh g3) (xokA_in g3) rfl ?_
      refine x_aload_n (pc' := 24) dX12_copy_23 rfl rfl ?_
      refine x_iload_n (pc' := 25) dX12_copy_24 rfl rfl ?_
      refine x_iload (pc' := 27) dX12_copy_25 rfl rfl ?_
      refine x_iadd (pc' := 28) dX12_copy_27 rfl ?_
      refine x_aload_n (pc' := 29) dX12_copy_28 rfl rfl ?_
      refine x_getr (pc' := 32) (t := 94) dX12_copy_29 f_X12_19 (by decide) rfl rfl rfl rfl ?_
      refine x_iload (pc' := 34) dX12_copy_32 rfl rfl ?_
      refine x_lald (pc' := 35) dX12_copy_34 (by decide) rfl (xok_in g2) rfl ?_
      refine xg_if h (fun g4 h => ?_)
      refine x_last (pc' := 36) dX12_copy_35 (xokA_lt g4) (xokA_sh g4) (xokA_in g4) rfl ?_
      refine x_iinc (pc' := 39) (v := (v4 + (1))) (L' := [some (.ref 90), some (.ref v1), some (.ref v2), some (.int v3), some (.int (v4 + (1)))]) dX12_copy_36 rfl rfl (Nat.le_of_ble_eq_true rfl) rfl rfl ?_
      refine x_goto (tgt := 3) dX12_copy_39 (by decide) ?_
      exact ih _ _ _ _ _ _ _ _ h
def F_X12_copy (v1 : Nat) (v2 : Nat) (v3 : Int32) (hi : Nat → Nat → Int32) (hl : Nat → Nat → Int64) (r : xRr) : Option (xSt) := F_X12_copy_3 1000000 v1 v2 v3 (0 : Int32) hi hl r
set_option maxRecDepth 20000 in
set_option maxHeartbeats 2000000 in
theorem r_X12_copy (v1 : Nat) (v2 : Nat) (v3 : Int32) (hi : Nat → Nat → Int32) (hl : Nat → Nat → Int64) (r : xRr) (o : xSt) (h : F_X12_copy v1 v2 v3 hi hl r = some o) : xM yX12_copy cX12_copy 5 0 (0, 0, 0) z [.ref 90, .ref v1, .ref v2, .int v3] (xhp hi hl r) (xoV o) := by
  refine x_meth2 (C := RX12) (ini := false) (L := [some (.ref 90), some (.ref v1), some (.ref v2), some (.int v3), none]) rfl (by decide) (fun h9 => by cases h9) (by decide) (Nat.le_of_ble_eq_true rfl) rfl ?_
  refine x_iconst (pc' := 1) (x := 0) dX12_copy_0 (by decide) rfl ?_
  refine x_istore (pc' := 3) (L' := [some (.ref 90), some (.ref v1), some (.ref v2), some (.int v3), some (.int (0 : Int32))]) dX12_copy_1 (Nat.le_of_ble_eq_true rfl) rfl rfl ?_
  exact r_X12_copy_3 1000000 _ _ _ _ _ _ _ _ h
def F_X12_know_90 : Nat → Int32 → (Nat → Nat → Int32) → (Nat → Nat → Int64) → xRr → Option (xSt)
  | 0, _, _, _, _ => none
  | n + 1, v1, hi, hl, r => if (72 : Int32) ≤ v1 then if xok (hi 90 15) 10 = true then some ((xu (xu hi 101 (Int32.toNatClampNeg (hi 90 15)) (hi 90 1)) 90 15 (((xu hi 101 (Int32.toNatClampNeg (hi 90 15)) (hi 90 1)) 90 15) + (1 : Int32))), hl, r) else none else if xok v1 72 = true then if xok (((72 : Int32) * (hi 90 15)) + v1) 720 = true then if xok (((72 : Int32) * ((xu hi 102 (Int32.toNatClampNeg (((72 : Int32) * (hi 90 15)) + v1)) (hi 113 (Int32.toNatClampNeg v1))) 90 15)) + v1) 720 = true then (F_X12_know_90 n) (v1 + (1)) (xu hi 102 (Int32.toNatClampNeg (((72 : Int32) * (hi 90 15)) + v1)) (hi 113 (Int32.toNatClampNeg v1))) (xu hl 103 (Int32.toNatClampNeg (((72 : Int32) * ((xu hi 102 (Int32.toNatClampNeg (((72 : Int32) * (hi 90 15)) + v1)) (hi 113 (Int32.toNatClampNeg v1))) 90 15)) + v1)) (hl 114 (Int32.toNatClampNeg v1))) r else none else none else none
set_option maxRecDepth 20000 in
set_option maxHeartbeats 2000000 in
theorem r_X12_know_90 : ∀ (n : Nat) (v1 : Int32) (hi : Nat → Nat → Int32) (hl : Nat → Nat → Int64) (r : xRr) (o : xSt), F_X12_know_90 n v1 hi hl r = some o → xR (RX12, cX12_know, 2, false, 0) (0, 0, 0) z 0 0 90 [some (.ref 90), some (.int v1)] [] (xhp hi hl r) (xoV o) := by
  intro n
  induction n with
  | zero =>
    intro v1 hi hl r o h
    have h : none = some o := h
    cases h
  | succ n ih =>
    intro v1 hi hl r o h
    refine x_iload_n (pc' := 91) dX12_know_90 rfl rfl ?_
    refine x_bipush (pc' := 93) (x := 72) dX12_know_91 (by decide) rfl ?_
    refine xg_ite h (fun g1 h => ?_) (fun g1 h => ?_)
    · refine x_icmp_ge (tgt := 142) (pc' := 96) dX12_know_93 (by decide) rfl (fun _ => ?_) (fun hn => absurd g1 hn)
      refine x_aload_n (pc' := 143) dX12_know_142 rfl rfl ?_
      refine x_getr (pc' := 146) (t := 101) dX12_know_143 f_X12_45 (by decide) rfl rfl rfl rfl ?_
      refine x_aload_n (pc' := 147) dX12_know_146 rfl rfl ?_
      refine x_geti (pc' := 150) dX12_know_147 f_X12_169 (by decide) rfl rfl rfl ?_
      refine x_aload_n (pc' := 151) dX12_know_150 rfl rfl ?_
      refine x_geti (pc' := 154) dX12_know_151 f_X12_140 (by decide) rfl rfl rfl ?_
      refine xg_if h (fun g2 h => ?_)
      refine x_iast (pc' := 155) dX12_know_154 (by decide) rfl (xok_in g2) rfl ?_
      refine x_aload_n (pc' := 156) dX12_know_155 rfl rfl ?_
      refine x_dup (pc' := 157) dX12_know_156 rfl rfl ?_
      refine x_geti (pc' := 160) dX12_know_157 f_X12_169 (by decide) rfl rfl rfl ?_
      refine x_iconst (pc' := 161) (x := 1) dX12_know_160 (by decide) rfl ?_
      refine x_iadd (pc' := 162) dX12_know_161 rfl ?_
      refine x_puti (pc' := 165) dX12_know_162 f_X12_169 (Or.inl rfl) (by decide) rfl rfl rfl ?_
      obtain rfl := Option.some.inj h
      exact x_vret dX12_know_165 rfl rfl (Nat.le_of_ble_eq_true rfl) rfl
    · refine x_icmp_ge (tgt := 142) (pc' := 96) dX12_know_93 (by decide) rfl (fun hn => absurd hn g1) (fun _ => ?_)
      refine x_aload_n (pc' := 97) dX12_know_96 rfl rfl ?_
      refine x_getr (pc' := 100) (t := 102) dX12_know_97 f_X12_48 (by decide) rfl rfl rfl rfl ?_
      refine x_bipush (pc' := 102) (x := 72) dX12_know_100 (by decide) rfl ?_
      refine x_aload_n (pc' := 103) dX12_know_102 rfl rfl ?_
      refine x_geti (pc' := 106) dX12_know_103 f_X12_169 (by decide) rfl rfl rfl ?_
      refine x_imul (pc' := 107) dX12_know_106 rfl ?_
      refine x_iload_n (pc' := 108) dX12_know_107 rfl rfl ?_
      refine x_iadd (pc' := 109) dX12_know_108 rfl ?_
      refine x_aload_n (pc' := 110) dX12_know_109 rfl rfl ?_
      refine x_getr (pc' := 113) (t := 113) dX12_know_110 f_X12_82 (by decide) rfl rfl rfl rfl ?_
      refine x_iload_n (pc' := 114) dX12_know_113 rfl rfl ?_
      refine xg_if h (fun g3 h => ?_)
      refine x_iald (pc' := 115) dX12_know_114 (by decide) rfl (xok_in g3) rfl ?_
      refine xg_if h (fun g4 h => ?_)
      refine x_iast (pc' := 116) dX12_know_115 (by decide) rfl (xok_in g4) rfl ?_
      refine x_aload_n (pc' := 117) dX12_know_116 rfl rfl ?_
      refine x_getr (pc' := 120) (t := 103) dX12_know_117 f_X12_51 (by decide) rfl rfl rfl rfl ?_
      refine x_bipush (pc' := 122) (x := 72) dX12_know_120 (by decide) rfl ?_
      refine x_aload_n (pc' := 123) dX12_know_122 rfl rfl ?_
      refine x_geti (pc' := 126) dX12_know_123 f_X12_169 (by decide) rfl rfl rfl ?_
      refine x_imul (pc' := 127) dX12_know_126 rfl ?_
      refine x_iload_n (pc' := 128) dX12_know_127 rfl rfl ?_
      refine x_iadd (pc' := 129) dX12_know_128 rfl ?_
      refine x_aload_n (pc' := 130) dX12_know_129 rfl rfl ?_
      refine x_getr (pc' := 133) (t := 114) dX12_know_130 f_X12_85 (by decide) rfl rfl rfl rfl ?_
      refine x_iload_n (pc' := 134) dX12_know_133 rfl rfl ?_
      refine x_lald (pc' := 135) dX12_know_134 (by decide) rfl (xok_in g3) rfl ?_
      refine xg_if h (fun g5 h => ?_)
      refine x_last (pc' := 136) dX12_know_135 (by decide) rfl (xok_in g5) rfl ?_
      refine x_iinc (pc' := 139) (v := (v1 + (1))) (L' := [some (.ref 90), some (.int (v1 + (1)))]) dX12_know_136 rfl rfl (Nat.le_of_ble_eq_true rfl) rfl rfl ?_
      refine x_goto (tgt := 90) dX12_know_139 (by decide) ?_
      exact ih _ _ _ _ _ h
def F_X12_know_88 (hi : Nat → Nat → Int32) (hl : Nat → Nat → Int64) (r : xRr) : Option (xSt) := F_X12_know_90 1000000 (0 : Int32) hi hl r
set_option maxRecDepth 20000 in
set_option maxHeartbeats 2000000 in
theorem r_X12_know_88 (d1 : Option Value) (hi : Nat → Nat → Int32) (hl : Nat → Nat → Int64) (r : xRr) (o : xSt) (h : F_X12_know_88 hi hl r = some o) : xR (RX12, cX12_know, 2, false, 0) (0, 0, 0) z 0 0 88 [some (.ref 90), d1] [] (xhp hi hl r) (xoV o) := by
  refine x_iconst (pc' := 89) (x := 0) dX12_know_88 (by decide) rfl ?_
  refine x_istore_n (pc' := 90) (L' := [some (.ref 90), some (.int (0 : Int32))]) dX12_know_89 (Nat.le_of_ble_eq_true rfl) rfl rfl ?_
  exact r_X12_know_90 1000000 _ _ _ _ _ h
def F_X12_know_56 : Nat → Int32 → (Nat → Nat → Int32) → (Nat → Nat → Int64) → xRr → Option (xSt)
  | 0, _, _, _, _ => none
  | n + 1, v1, hi, hl, r => if (9 : Int32) ≤ v1 then F_X12_know_88 (xu hi 90 15 (9 : Int32)) hl r else if xok (v1 + (1 : Int32)) 10 = true then if xok v1 10 = true then (F_X12_know_56 n) (v1 + (1)) (xu hi 101 (Int32.toNatClampNeg v1) (hi 101 (Int32.toNatClampNeg (v1 + (1 : Int32))))) hl r else none else none
set_option maxRecDepth 20000 in
set_option maxHeartbeats 2000000 in
theorem r_X12_know_56 : ∀ (n : Nat) (v1 : Int32) (hi : Nat → Nat → Int32) (hl : Nat → Nat → Int64) (r : xRr) (o : xSt), F_X12_know_56 n v1 hi hl r = some o → xR (RX12, cX12_know, 2, false, 0) (0, 0, 0) z 0 0 56 [some (.ref 90), some (.int v1)] [] (xhp hi hl r) (xoV o) := by
  intro n
  induction n with
  | zero =>
    intro v1 hi hl r o h
    have h : none = some o := h
    cases h
  | succ n ih =>
    intro v1 hi hl r o h
    refine x_iload_n (pc' := 57) dX12_know_56 rfl rfl ?_
    refine x_bipush (pc' := 59) (x := 9) dX12_know_57 (by decide) rfl ?_
    refine xg_ite h (fun g1 h => ?_) (fun g1 h => ?_)
    · refine x_icmp_ge (tgt := 82) (pc' := 62) dX12_know_59 (by decide) rfl (fun _ => ?_) (fun hn => absurd g1 hn)
      refine x_aload_n (pc' := 83) dX12_know_82 rfl rfl ?_
      refine x_bipush (pc' := 85) (x := 9) dX12_know_83 (by decide) rfl ?_
      refine x_puti (pc' := 88) dX12_know_85 f_X12_169 (Or.inl rfl) (by decide) rfl rfl rfl ?_
      exact r_X12_know_88 _ _ _ _ _ h
    · refine x_icmp_ge (tgt := 82) (pc' := 62) dX12_know_59 (by decide) rfl (fun hn => absurd hn g1) (fun _ => ?_)
      refine x_aload_n (pc' := 63) dX12_know_62 rfl rfl ?_
      refine x_getr (pc' := 66) (t := 101) dX12_know_63 f_X12_45 (by decide) rfl rfl rfl rfl ?_
      refine x_iload_n (pc' := 67) dX12_know_66 rfl rfl ?_
      refine x_aload_n (pc' := 68) dX12_know_67 rfl rfl ?_
      refine x_getr (pc' := 71) (t := 101) dX12_know_68 f_X12_45 (by decide) rfl rfl rfl rfl ?_
      refine x_iload_n (pc' := 72) dX12_know_71 rfl rfl ?_
      refine x_iconst (pc' := 73) (x := 1) dX12_know_72 (by decide) rfl ?_
      refine x_iadd (pc' := 74) dX12_know_73 rfl ?_
      refine xg_if h (fun g2 h => ?_)
      refine x_iald (pc' := 75) dX12_know_74 (by decide) rfl (xok_in g2) rfl ?_
      refine xg_if h (fun g3 h => ?_)
      refine x_iast (pc' := 76) dX12_know_75 (by decide) rfl (xok_in g3) rfl ?_
      refine x_iinc (pc' := 79) (v := (v1 + (1))) (L' := [some (.ref 90), some (.int (v1 + (1)))]) dX12_know_76 rfl rfl (Nat.le_of_ble_eq_true rfl) rfl rfl ?_
      refine x_goto (tgt := 56) dX12_know_79 (by decide) ?_
      exact ih _ _ _ _ _ h
def F_X12_know_11 : Nat → Int32 → (Nat → Nat → Int32) → (Nat → Nat → Int64) → xRr → Option (xSt)
  | 0, _, _, _, _ => none
  | n + 1, v1, hi, hl, r => if (648 : Int32) ≤ v1 then F_X12_know_56 1000000 (0 : Int32) hi hl r else if xok (v1 + (72 : Int32)) 720 = true then if xok v1 720 = true then (F_X12_know_11 n) (v1 + (1)) (xu hi 102 (Int32.toNatClampNeg v1) (hi 102 (Int32.toNatClampNeg (v1 + (72 : Int32))))) (xu hl 103 (Int32.toNatClampNeg v1) (hl 103 (Int32.toNatClampNeg (v1 + (72 : Int32))))) r else none else none
set_option maxRecDepth 20000 in
set_option maxHeartbeats 2000000 in
theorem r_X12_know_11 : ∀ (n : Nat) (v1 : Int32) (hi : Nat → Nat → Int32) (hl : Nat → Nat → Int64) (r : xRr) (o : xSt), F_X12_know_11 n v1 hi hl r = some o → xR (RX12, cX12_know, 2, false, 0) (0, 0, 0) z 0 0 11 [some (.ref 90), some (.int v1)] [] (xhp hi hl r) (xoV o) := by
  intro n
  induction n with
  | zero =>
    intro v1 hi hl r o h
    have h : none = some o := h
    cases h
  | succ n ih =>
    intro v1 hi hl r o h
    refine x_iload_n (pc' := 12) dX12_know_11 rfl rfl ?_
    refine x_sipush (pc' := 15) (x := 648) dX12_know_12 (by decide) rfl ?_
    refine xg_ite h (fun g1 h => ?_) (fun g1 h => ?_)
    · refine x_icmp_ge (tgt := 54) (pc' := 18) dX12_know_15 (by decide) rfl (fun _ => ?_) (fun hn => absurd g1 hn)
      refine x_iconst (pc' := 55) (x := 0) dX12_know_54 (by decide) rfl ?_
      refine x_istore_n (pc' := 56) (L' := [some (.ref 90), some (.int (0 : Int32))]) dX12_know_55 (Nat.le_of_ble_eq_true rfl) rfl rfl ?_
      exact r_X12_know_56 1000000 _ _ _ _ _ h
    · refine x_icmp_ge (tgt := 54) (pc' := 18) dX12_know_15 (by decide) rfl (fun hn => absurd hn g1) (fun _ => ?_)
      refine x_aload_n (pc' := 19) dX12_know_18 rfl rfl ?_
      refine x_getr (pc' := 22) (t := 102) dX12_know_19 f_X12_48 (by decide) rfl rfl rfl rfl ?_
      refine x_iload_n (pc' := 23) dX12_know_22 rfl rfl ?_
      refine x_aload_n (pc' := 24) dX12_know_23 rfl rfl ?_
      refine x_getr (pc' := 27) (t := 102) dX12_know_24 f_X12_48 (by decide) rfl rfl rfl rfl ?_
      refine x_iload_n (pc' := 28) dX12_know_27 rfl rfl ?_
      refine x_bipush (pc' := 30) (x := 72) dX12_know_28 (by decide) rfl ?_
      refine x_iadd (pc' := 31) dX12_know_30 rfl ?_
      refine xg_if h (fun g2 h => ?_)
      refine x_iald (pc' := 32) dX12_know_31 (by decide) rfl (xok_in g2) rfl ?_
      refine xg_if h (fun g3 h => ?_)
      refine x_iast (pc' := 33) dX12_know_32 (by decide) rfl (xok_in g3) rfl ?_
      refine x_aload_n (pc' := 34) dX12_know_33 rfl rfl ?_
      refine x_getr (pc' := 37) (t := 103) dX12_know_34 f_X12_51 (by decide) rfl rfl rfl rfl ?_
      refine x_iload_n (pc' := 38) dX12_know_37 rfl rfl ?_
      refine x_aload_n (pc' := 39) dX12_know_38 rfl rfl ?_
      refine x_getr (pc' := 42) (t := 103) dX12_know_39 f_X12_51 (by decide) rfl rfl rfl rfl ?_
      refine x_iload_n (pc' := 43) dX12_know_42 rfl rfl ?_
      refine x_bipush (pc' := 45) (x := 72) dX12_know_43 (by decide) rfl ?_
      refine x_iadd (pc' := 46) dX12_know_45 rfl ?_
      refine x_lald (pc' := 47) dX12_know_46 (by decide) rfl (xok_in g2) rfl ?_
      refine x_last (pc' := 48) dX12_know_47 (by decide) rfl (xok_in g3) rfl ?_
      refine x_iinc (pc' := 51) (v := (v1 + (1))) (L' := [some (.ref 90), some (.int (v1 + (1)))]) dX12_know_48 rfl rfl (Nat.le_of_ble_eq_true rfl) rfl rfl ?_
      refine x_goto (tgt := 11) dX12_know_51 (by decide) ?_
      exact ih _ _ _ _ _ h
def F_X12_know (hi : Nat → Nat → Int32) (hl : Nat → Nat → Int64) (r : xRr) : Option (xSt) := if (hi 90 15) = (10 : Int32) then F_X12_know_11 1000000 (0 : Int32) hi hl r else F_X12_know_88 hi hl r
set_option maxRecDepth 20000 in
set_option maxHeartbeats 2000000 in
theorem r_X12_know (hi : Nat → Nat → Int32) (hl : Nat → Nat → Int64) (r : xRr) (o : xSt) (h : F_X12_know hi hl r = some o) : xM yX12_know cX12_know 2 0 (0, 0, 0) z [.ref 90] (xhp hi hl r) (xoV o) := by
  refine x_meth2 (C := RX12) (ini := false) (L := [some (.ref 90), none]) rfl (by decide) (fun h9 => by cases h9) (by decide) (Nat.le_of_ble_eq_true rfl) rfl ?_
  refine x_aload_n (pc' := 1) dX12_know_0 rfl rfl ?_
  refine x_geti (pc' := 4) dX12_know_1 f_X12_169 (by decide) rfl rfl rfl ?_
  refine x_bipush (pc' := 6) (x := 10) dX12_know_4 (by decide) rfl ?_
  refine xg_ite h (fun g1 h => ?_) (fun g1 h => ?_)
  · refine x_icmp_ne (tgt := 88) (pc' := 9) dX12_know_6 (by decide) rfl (fun hn => absurd g1 hn) (fun _ => ?_)
    refine x_iconst (pc' := 10) (x := 0) dX12_know_9 (by decide) rfl ?_
    refine x_istore_n (pc' := 11) (L' := [some (.ref 90), some (.int (0 : Int32))]) dX12_know_10 (Nat.le_of_ble_eq_true rfl) rfl rfl ?_
    exact r_X12_know_11 1000000 _ _ _ _ _ h
  · refine x_icmp_ne (tgt := 88) (pc' := 9) dX12_know_6 (by decide) rfl (fun _ => ?_) (fun hn => absurd hn g1)
    exact r_X12_know_88 _ _ _ _ _ h
def F_X12_put (v1 : Int32) (hi : Nat → Nat → Int32) (hl : Nat → Nat → Int64) (r : xRr) : Option (xSt) := if xok v1 72 = true then some ((xu hi 93 (Int32.toNatClampNeg v1) (hi 90 31)), (xu hl 94 (Int32.toNatClampNeg v1) (hl 90 32)), r) else none
set_option maxRecDepth 20000 in
set_option maxHeartbeats 2000000 in
theorem r_X12_put (v1 : Int32) (hi : Nat → Nat → Int32) (hl : Nat → Nat → Int64) (r : xRr) (o : xSt) (h : F_X12_put v1 hi hl r = some o) : xM yX12_put cX12_put 2 0 (0, 0, 0) z [.ref 90, .int v1] (xhp hi hl r) (xoV o) := by
  refine x_meth2 (C := RX12) (ini := false) (L := [some (.ref 90), some (.int v1)]) rfl (by decide) (fun h9 => by cases h9) (by decide) (Nat.le_of_ble_eq_true rfl) rfl ?_
  refine x_aload_n (pc' := 1) dX12_put_0 rfl rfl ?_
  refine x_getr (pc' := 4) (t := 93) dX12_put_1 f_X12_16 (by decide) rfl rfl rfl rfl ?_
  refine x_iload_n (pc' := 5) dX12_put_4 rfl rfl ?_
  refine x_aload_n (pc' := 6) dX12_put_5 rfl rfl ?_
  refine x_geti (pc' := 9) dX12_put_6 f_X12_182 (by decide) rfl rfl rfl ?_
  refine xg_if h (fun g1 h => ?_)
  refine x_iast (pc' := 10) dX12_put_9 (by decide) rfl (xok_in g1) rfl ?_
  refine x_aload_n (pc' := 11) dX12_put_10 rfl rfl ?_
  refine x_getr (pc' := 14) (t := 94) dX12_put_11 f_X12_19 (by decide) rfl rfl rfl rfl ?_
  refine x_iload_n (pc' := 15) dX12_put_14 rfl rfl ?_
  refine x_aload_n (pc' := 16) dX12_put_15 rfl rfl ?_
  refine x_getl (pc' := 19) dX12_put_16 f_X12_185 (by decide) rfl rfl rfl ?_
  refine x_last (pc' := 20) dX12_put_19 (by decide) rfl (xok_in g1) rfl ?_
  obtain rfl := Option.some.inj h
  exact x_vret dX12_put_20 rfl rfl (Nat.le_of_ble_eq_true rfl) rfl
def F_X12_writes_77 (s1 : Int32) (s2 : Int32) (s3 : Int32) (hi : Nat → Nat → Int32) (hl : Nat → Nat → Int64) (r : xRr) : Option (Int32 × xSt) := xbI (F_X12_write s1 s2 s3 hi hl r) (fun w2 hi2 hl2 r2 => if w2 = 0 then xbV (F_X12_copy 113 114 (0 : Int32) hi2 hl2 r2) (fun hi5 hl5 r5 => xbV (F_X12_know hi5 hl5 r5) (fun hi7 hl7 r7 => xbV (F_X12_put (hi7 90 33) hi7 hl7 r7) (fun hi9 hl9 r9 => some (w2, hi9, hl9, r9)))) else some (w2, hi2, hl2, r2))
set_option maxRecDepth 20000 in
set_option maxHeartbeats 2000000 in
theorem r_X12_writes_77 (s1 : Int32) (s2 : Int32) (s3 : Int32) (d1 : Option Value) (d2 : Option Value) (d3 : Option Value) (d4 : Option Value) (d5 : Option Value) (d6 : Option Value) (d7 : Option Value) (hi : Nat → Nat → Int32) (hl : Nat → Nat → Int64) (r : xRr) (o : Int32 × xSt) (h : F_X12_writes_77 s1 s2 s3 hi hl r = some o) : xR (RX12, cX12_writes, 8, false, 1) (5, 0, 0) z 0 0 77 [some (.ref 90), d1, d2, d3, d4, d5, d6, d7] [.int s3, .int s2, .int s1, .ref 90] (xhp hi hl r) (xoI o) := by
  refine xg_bI h (fun w2 hi2 hl2 r2 e1 h => ?_)
  refine x_callV (pc' := 80) (S := []) (As := [.int s1, .int s2, .int s3]) (b' := (4, 0, 0)) dX12_writes_77 l_X12_245 m_X12_write rfl rfl (show 90 < 122 by decide) rfl (Nat.le_of_ble_eq_true rfl) (Nat.le_of_ble_eq_true rfl) (Nat.le_of_ble_eq_true rfl) (Nat.le_of_ble_eq_true rfl) (r_X12_write _ _ _ _ _ _ _ e1) rfl ?_
  refine x_istore (pc' := 82) (L' := [some (.ref 90), d1, d2, d3, d4, d5, (xcl d6), some (.int w2)]) dX12_writes_80 (Nat.le_of_ble_eq_true rfl) rfl rfl ?_
  refine x_iload (pc' := 84) dX12_writes_82 rfl rfl ?_
  refine xg_ite h (fun g3 h => ?_) (fun g3 h => ?_)
  · refine x_if_ne (tgt := 112) (pc' := 87) dX12_writes_84 (by decide) rfl (fun hn => absurd g3 hn) (fun _ => ?_)
    refine x_aload_n (pc' := 88) dX12_writes_87 rfl rfl ?_
    refine x_aload_n (pc' := 89) dX12_writes_88 rfl rfl ?_
    refine x_getr (pc' := 92) (t := 113) dX12_writes_89 f_X12_82 (by decide) rfl rfl rfl rfl ?_
    refine x_aload_n (pc' := 93) dX12_writes_92 rfl rfl ?_
    refine x_getr (pc' := 96) (t := 114) dX12_writes_93 f_X12_85 (by decide) rfl rfl rfl rfl ?_
    refine x_iconst (pc' := 97) (x := 0) dX12_writes_96 (by decide) rfl ?_
    refine xg_bV h (fun hi5 hl5 r5 e4 h => ?_)
    refine x_callV (pc' := 100) (S := []) (As := [.ref 113, .ref 114, .int (0 : Int32)]) (b' := (0, 0, 0)) dX12_writes_97 l_X12_248 m_X12_copy rfl rfl (show 90 < 122 by decide) rfl (Nat.le_of_ble_eq_true rfl) (Nat.le_of_ble_eq_true rfl) (Nat.le_of_ble_eq_true rfl) (Nat.le_of_ble_eq_true rfl) (r_X12_copy _ _ _ _ _ _ _ e4) rfl ?_
    refine x_aload_n (pc' := 101) dX12_writes_100 rfl rfl ?_
    refine xg_bV h (fun hi7 hl7 r7 e6 h => ?_)
    refine x_callV (pc' := 104) (S := []) (As := []) (b' := (0, 0, 0)) dX12_writes_101 l_X12_252 m_X12_know rfl rfl (show 90 < 122 by decide) rfl (Nat.le_of_ble_eq_true rfl) (Nat.le_of_ble_eq_true rfl) (Nat.le_of_ble_eq_true rfl) (Nat.le_of_ble_eq_true rfl) (r_X12_know _ _ _ _ e6) rfl ?_
    refine x_aload_n (pc' := 105) dX12_writes_104 rfl rfl ?_
    refine x_aload_n (pc' := 106) dX12_writes_105 rfl rfl ?_
    refine x_geti (pc' := 109) dX12_writes_106 f_X12_222 (by decide) rfl rfl rfl ?_
    refine xg_bV h (fun hi9 hl9 r9 e8 h => ?_)
    refine x_callV (pc' := 112) (S := []) (As := [.int (hi7 90 33)]) (b' := (0, 0, 0)) dX12_writes_109 l_X12_255 m_X12_put rfl rfl (show 90 < 122 by decide) rfl (Nat.le_of_ble_eq_true rfl) (Nat.le_of_ble_eq_true rfl) (Nat.le_of_ble_eq_true rfl) (Nat.le_of_ble_eq_true rfl) (r_X12_put _ _ _ _ _ e8) rfl ?_
    refine x_iload (pc' := 114) dX12_writes_112 rfl rfl ?_
    obtain rfl := Option.some.inj h
    exact x_iret dX12_writes_114 rfl rfl (Nat.le_of_ble_eq_true rfl) rfl
  · refine x_if_ne (tgt := 112) (pc' := 87) dX12_writes_84 (by decide) rfl (fun _ => ?_) (fun hn => absurd hn g3)
    refine x_iload (pc' := 114) dX12_writes_112 rfl rfl ?_
    obtain rfl := Option.some.inj h
    exact x_iret dX12_writes_114 rfl rfl (Nat.le_of_ble_eq_true rfl) rfl
def F_X12_writes_60 (v1 : Int32) (v2 : Int32) (v3 : Int32) (v4 : Int32) (s1 : Int64) (hi : Nat → Nat → Int32) (hl : Nat → Nat → Int64) (r : xRr) : Option (Int32 × xSt) := if v4 = 0 then F_X12_writes_77 v1 v2 v3 hi (xu hl 90 32 s1) r else F_X12_writes_77 v1 v2 (8 : Int32) hi (xu hl 90 32 s1) r
set_option maxRecDepth 20000 in
set_option maxHeartbeats 2000000 in
theorem r_X12_writes_60 (v1 : Int32) (v2 : Int32) (v3 : Int32) (v4 : Int32) (s1 : Int64) (d5 : Option Value) (d6 : Option Value) (d7 : Option Value) (hi : Nat → Nat → Int32) (hl : Nat → Nat → Int64) (r : xRr) (o : Int32 × xSt) (h : F_X12_writes_60 v1 v2 v3 v4 s1 hi hl r = some o) : xR (RX12, cX12_writes, 8, false, 1) (5, 0, 0) z 0 0 60 [some (.ref 90), some (.int v1), some (.int v2), some (.int v3), some (.int v4), d5, d6, d7] [.long s1, .ref 90] (xhp hi hl r) (xoI o) := by
  refine x_putl (pc' := 63) dX12_writes_60 f_X12_185 (Or.inl rfl) (by decide) rfl rfl rfl ?_
  refine x_aload_n (pc' := 64) dX12_writes_63 rfl rfl ?_
  refine x_iload_n (pc' := 65) dX12_writes_64 rfl rfl ?_
  refine x_iload_n (pc' := 66) dX12_writes_65 rfl rfl ?_
  refine x_iload (pc' := 68) dX12_writes_66 rfl rfl ?_
  refine xg_ite h (fun g1 h => ?_) (fun g1 h => ?_)
  · refine x_if_ne (tgt := 75) (pc' := 71) dX12_writes_68 (by decide) rfl (fun hn => absurd g1 hn) (fun _ => ?_)
    refine x_iload_n (pc' := 72) dX12_writes_71 rfl rfl ?_
    refine x_goto (tgt := 77) dX12_writes_72 (by decide) ?_
    exact r_X12_writes_77 _ _ _ _ _ _ _ _ _ _ _ _ _ _ h
  · refine x_if_ne (tgt := 75) (pc' := 71) dX12_writes_68 (by decide) rfl (fun _ => ?_) (fun hn => absurd hn g1)
    refine x_bipush (pc' := 77) (x := 8) dX12_writes_75 (by decide) rfl ?_
    exact r_X12_writes_77 _ _ _ _ _ _ _ _ _ _ _ _ _ _ h
def F_X12_writes (v1 : Int32) (v2 : Int32) (v3 : Int32) (v4 : Int32) (v5 : Int64) (hi : Nat → Nat → Int32) (hl : Nat → Nat → Int64) (r : xRr) : Option (Int32 × xSt) := xbI (F_X12_isView v1 (xu hi 90 0 (0 : Int32)) hl r) (fun w2 hi2 hl2 r2 => if w2 = 0 then some (((-1) : Int32), hi2, hl2, r2) else xbP (F_X12_in (Int32.toInt64 v2) (0 : Int64) (11 : Int64)) (fun w5 => if w5 = 0 then some (((-1) : Int32), hi2, hl2, r2) else xbP (F_X12_isThing v3 v4 v5) (fun w8 => if w8 = 0 then some (((-1) : Int32), hi2, hl2, r2) else if v3 = (10 : Int32) then F_X12_writes_60 v1 v2 v3 v4 (0 : Int64) (xu hi2 90 31 v3) hl2 r2 else xbP (F_X12_as v3 v5) (fun w12 => F_X12_writes_60 v1 v2 v3 v4 w12 (xu hi2 90 31 v3) hl2 r2))))
set_option maxRecDepth 20000 in
set_option maxHeartbeats 2000000 in
theorem r_X12_writes (v1 : Int32) (v2 : Int32) (v3 : Int32) (v4 : Int32) (v5 : Int64) (hi : Nat → Nat → Int32) (hl : Nat → Nat → Int64) (r : xRr) (o : Int32 × xSt) (h : F_X12_writes v1 v2 v3 v4 v5 hi hl r = some o) : xM yX12_writes cX12_writes 8 1 (5, 0, 0) z [.ref 90, .int v1, .int v2, .int v3, .int v4, .long v5] (xhp hi hl r) (xoI o) := by
  refine x_meth2 (C := RX12) (ini := false) (L := [some (.ref 90), some (.int v1), some (.int v2), some (.int v3), some (.int v4), some (.long v5), none, none]) rfl (by decide) (fun h9 => by cases h9) (by decide) (Nat.le_of_ble_eq_true rfl) rfl ?_
  refine x_aload_n (pc' := 1) dX12_writes_0 rfl rfl ?_
  refine x_iconst (pc' := 2) (x := 0) dX12_writes_1 (by decide) rfl ?_
  refine x_puti (pc' := 5) dX12_writes_2 f_X12_109 (Or.inl rfl) (by decide) rfl rfl rfl ?_
  refine x_aload_n (pc' := 6) dX12_writes_5 rfl rfl ?_
  refine x_iload_n (pc' := 7) dX12_writes_6 rfl rfl ?_
  refine xg_bI h (fun w2 hi2 hl2 r2 e1 h => ?_)
  refine x_callV (pc' := 10) (S := []) (As := [.int v1]) (b' := (1, 0, 0)) dX12_writes_7 l_X12_152 m_X12_isView rfl rfl (show 90 < 122 by decide) rfl (Nat.le_of_ble_eq_true rfl) (Nat.le_of_ble_eq_true rfl) (Nat.le_of_ble_eq_true rfl) (Nat.le_of_ble_eq_true rfl) (r_X12_isView _ _ _ _ _ e1) rfl ?_
  refine xg_ite h (fun g3 h => ?_) (fun g3 h => ?_)
  · refine x_if_eq (tgt := 36) (pc' := 13) dX12_writes_10 (by decide) rfl (fun _ => ?_) (fun hn => absurd g3 hn)
    refine x_iconst (pc' := 37) (x := (-1)) dX12_writes_36 (by decide) rfl ?_
    obtain rfl := Option.some.inj h
    exact x_iret dX12_writes_37 rfl rfl (Nat.le_of_ble_eq_true rfl) rfl
  · refine x_if_eq (tgt := 36) (pc' := 13) dX12_writes_10 (by decide) rfl (fun hn => absurd hn g3) (fun _ => ?_)
    refine x_iload_n (pc' := 14) dX12_writes_13 rfl rfl ?_
    refine x_i2l (pc' := 15) dX12_writes_14 rfl ?_
    refine x_lconst (pc' := 16) (x := 0) dX12_writes_15 (by decide) rfl ?_
    refine x_ldc2 (pc' := 19) dX12_writes_16 k_X12_225 rfl ?_
    refine xg_bP h (fun w5 e4 h => ?_)
    refine x_callS (pc' := 22) (S := []) (As := [.long (Int32.toInt64 v2), .long (0 : Int64), .long (11 : Int64)]) (b' := (0, 0, 0)) dX12_writes_19 l_X12_118 m_X12_in rfl rfl (Nat.le_of_ble_eq_true rfl) (Nat.le_of_ble_eq_true rfl) (Nat.le_of_ble_eq_true rfl) (Nat.le_of_ble_eq_true rfl) (r_X12_in _ _ _ _ _ e4) rfl ?_
    refine xg_ite h (fun g6 h => ?_) (fun g6 h => ?_)
    · refine x_if_eq (tgt := 36) (pc' := 25) dX12_writes_22 (by decide) rfl (fun _ => ?_) (fun hn => absurd g6 hn)
      refine x_iconst (pc' := 37) (x := (-1)) dX12_writes_36 (by decide) rfl ?_
      obtain rfl := Option.some.inj h
      exact x_iret dX12_writes_37 rfl rfl (Nat.le_of_ble_eq_true rfl) rfl
    · refine x_if_eq (tgt := 36) (pc' := 25) dX12_writes_22 (by decide) rfl (fun hn => absurd hn g6) (fun _ => ?_)
      refine x_iload_n (pc' := 26) dX12_writes_25 rfl rfl ?_
      refine x_iload (pc' := 28) dX12_writes_26 rfl rfl ?_
      refine x_lload (pc' := 30) dX12_writes_28 rfl rfl ?_
      refine xg_bP h (fun w8 e7 h => ?_)
      refine x_callS (pc' := 33) (S := []) (As := [.int v3, .int v4, .long v5]) (b' := (2, 0, 0)) dX12_writes_30 l_X12_241 m_X12_isThing rfl rfl (Nat.le_of_ble_eq_true rfl) (Nat.le_of_ble_eq_true rfl) (Nat.le_of_ble_eq_true rfl) (Nat.le_of_ble_eq_true rfl) (r_X12_isThing _ _ _ _ _ e7) rfl ?_
      refine xg_ite h (fun g9 h => ?_) (fun g9 h => ?_)
      · refine x_if_ne (tgt := 38) (pc' := 36) dX12_writes_33 (by decide) rfl (fun hn => absurd g9 hn) (fun _ => ?_)
        refine x_iconst (pc' := 37) (x := (-1)) dX12_writes_36 (by decide) rfl ?_
        obtain rfl := Option.some.inj h
        exact x_iret dX12_writes_37 rfl rfl (Nat.le_of_ble_eq_true rfl) rfl
      · refine x_if_ne (tgt := 38) (pc' := 36) dX12_writes_33 (by decide) rfl (fun _ => ?_) (fun hn => absurd hn g9)
        refine x_aload_n (pc' := 39) dX12_writes_38 rfl rfl ?_
        refine x_iload_n (pc' := 40) dX12_writes_39 rfl rfl ?_
        refine x_puti (pc' := 43) dX12_writes_40 f_X12_182 (Or.inl rfl) (by decide) rfl rfl rfl ?_
        refine x_aload_n (pc' := 44) dX12_writes_43 rfl rfl ?_
        refine x_iload_n (pc' := 45) dX12_writes_44 rfl rfl ?_
        refine x_bipush (pc' := 47) (x := 10) dX12_writes_45 (by decide) rfl ?_
        refine xg_ite h (fun g10 h => ?_) (fun g10 h => ?_)
        · refine x_icmp_ne (tgt := 54) (pc' := 50) dX12_writes_47 (by decide) rfl (fun hn => absurd g10 hn) (fun _ => ?_)
          refine x_lconst (pc' := 51) (x := 0) dX12_writes_50 (by decide) rfl ?_
          refine x_goto (tgt := 60) dX12_writes_51 (by decide) ?_
          exact r_X12_writes_60 _ _ _ _ _ _ _ _ _ _ _ _ h
        · refine x_icmp_ne (tgt := 54) (pc' := 50) dX12_writes_47 (by decide) rfl (fun _ => ?_) (fun hn => absurd hn g10)
          refine x_iload_n (pc' := 55) dX12_writes_54 rfl rfl ?_
          refine x_lload (pc' := 57) dX12_writes_55 rfl rfl ?_
          refine xg_bP h (fun w12 e11 h => ?_)
          refine x_callS (pc' := 60) (S := [.ref 90]) (As := [.int v3, .long v5]) (b' := (1, 0, 0)) dX12_writes_57 l_X12_188 m_X12_as rfl rfl (Nat.le_of_ble_eq_true rfl) (Nat.le_of_ble_eq_true rfl) (Nat.le_of_ble_eq_true rfl) (Nat.le_of_ble_eq_true rfl) (r_X12_as _ _ _ _ e11) rfl ?_
          exact r_X12_writes_60 _ _ _ _ _ _ _ _ _ _ _ _ h
def F_X12_ends (v1 : Int32) (v2 : Int32) (v3 : Int32) (v4 : Int32) (hi : Nat → Nat → Int32) (hl : Nat → Nat → Int64) (r : xRr) : Option (Int32 × xSt) := xbI (F_X12_write v1 v2 v3 hi hl r) (fun w2 hi2 hl2 r2 => if w2 = 0 then if v4 = 0 then xbV (F_X12_put (hi2 90 33) hi2 hl2 r2) (fun hi6 hl6 r6 => some (w2, hi6, hl6, r6)) else some (w2, hi2, hl2, r2) else some (w2, hi2, hl2, r2))
set_option maxRecDepth 20000 in
set_option maxHeartbeats 2000000 in
theorem r_X12_ends (v1 : Int32) (v2 : Int32) (v3 : Int32) (v4 : Int32) (hi : Nat → Nat → Int32) (hl : Nat → Nat → Int64) (r : xRr) (o : Int32 × xSt) (h : F_X12_ends v1 v2 v3 v4 hi hl r = some o) : xM yX12_ends cX12_ends 6 1 (5, 0, 0) z [.ref 90, .int v1, .int v2, .int v3, .int v4] (xhp hi hl r) (xoI o) := by
  refine x_meth2 (C := RX12) (ini := false) (L := [some (.ref 90), some (.int v1), some (.int v2), some (.int v3), some (.int v4), none]) rfl (by decide) (fun h9 => by cases h9) (by decide) (Nat.le_of_ble_eq_true rfl) rfl ?_
  refine x_aload_n (pc' := 1) dX12_ends_0 rfl rfl ?_
  refine x_iload_n (pc' := 2) dX12_ends_1 rfl rfl ?_
  refine x_iload_n (pc' := 3) dX12_ends_2 rfl rfl ?_
  refine x_iload_n (pc' := 4) dX12_ends_3 rfl rfl ?_
  refine xg_bI h (fun w2 hi2 hl2 r2 e1 h => ?_)
  refine x_callV (pc' := 7) (S := []) (As := [.int v1, .int v2, .int v3]) (b' := (4, 0, 0)) dX12_ends_4 l_X12_245 m_X12_write rfl rfl (show 90 < 122 by decide) rfl (Nat.le_of_ble_eq_true rfl) (Nat.le_of_ble_eq_true rfl) (Nat.le_of_ble_eq_true rfl) (Nat.le_of_ble_eq_true rfl) (r_X12_write _ _ _ _ _ _ _ e1) rfl ?_
  refine x_istore (pc' := 9) (L' := [some (.ref 90), some (.int v1), some (.int v2), some (.int v3), some (.int v4), some (.int w2)]) dX12_ends_7 (Nat.le_of_ble_eq_true rfl) rfl rfl ?_
  refine x_iload (pc' := 11) dX12_ends_9 rfl rfl ?_
  refine xg_ite h (fun g3 h => ?_) (fun g3 h => ?_)
  · refine x_if_ne (tgt := 27) (pc' := 14) dX12_ends_11 (by decide) rfl (fun hn => absurd g3 hn) (fun _ => ?_)
    refine x_iload (pc' := 16) dX12_ends_14 rfl rfl ?_
    refine xg_ite h (fun g4 h => ?_) (fun g4 h => ?_)
    · refine x_if_ne (tgt := 27) (pc' := 19) dX12_ends_16 (by decide) rfl (fun hn => absurd g4 hn) (fun _ => ?_)
      refine x_aload_n (pc' := 20) dX12_ends_19 rfl rfl ?_
      refine x_aload_n (pc' := 21) dX12_ends_20 rfl rfl ?_
      refine x_geti (pc' := 24) dX12_ends_21 f_X12_222 (by decide) rfl rfl rfl ?_
      refine xg_bV h (fun hi6 hl6 r6 e5 h => ?_)
      refine x_callV (pc' := 27) (S := []) (As := [.int (hi2 90 33)]) (b' := (0, 0, 0)) dX12_ends_24 l_X12_255 m_X12_put rfl rfl (show 90 < 122 by decide) rfl (Nat.le_of_ble_eq_true rfl) (Nat.le_of_ble_eq_true rfl) (Nat.le_of_ble_eq_true rfl) (Nat.le_of_ble_eq_true rfl) (r_X12_put _ _ _ _ _ e5) rfl ?_
      refine x_iload (pc' := 29) dX12_ends_27 rfl rfl ?_
      obtain rfl := Option.some.inj h
      exact x_iret dX12_ends_29 rfl rfl (Nat.le_of_ble_eq_true rfl) rfl
    · refine x_if_ne (tgt := 27) (pc' := 19) dX12_ends_16 (by decide) rfl (fun _ => ?_) (fun hn => absurd hn g4)
      refine x_iload (pc' := 29) dX12_ends_27 rfl rfl ?_
      obtain rfl := Option.some.inj h
      exact x_iret dX12_ends_29 rfl rfl (Nat.le_of_ble_eq_true rfl) rfl
  · refine x_if_ne (tgt := 27) (pc' := 14) dX12_ends_11 (by decide) rfl (fun _ => ?_) (fun hn => absurd hn g3)
    refine x_iload (pc' := 29) dX12_ends_27 rfl rfl ?_
    obtain rfl := Option.some.inj h
    exact x_iret dX12_ends_29 rfl rfl (Nat.le_of_ble_eq_true rfl) rfl
def F_X12_swaps (v1 : Int32) (v2 : Int32) (v3 : Int32) (v4 : Int32) (v5 : Int32) (v6 : Int64) (v8 : Int32) (hi : Nat → Nat → Int32) (hl : Nat → Nat → Int64) (r : xRr) : Option (Int32 × xSt) := if xok v1 8 = true then xbI (F_X12_write v3 v4 ((xu hi 90 31 v5) 99 (Int32.toNatClampNeg v1)) (xu hi 90 31 v5) (xu hl 90 32 v6) r) (fun w3 hi3 hl3 r3 => if w3 = 0 then if xok v3 8 = true then xbI (F_X12_write v1 v2 ((xu hi3 90 31 (hi 90 31)) 99 (Int32.toNatClampNeg v3)) (xu hi3 90 31 (hi 90 31)) (xu hl3 90 32 (hl 90 32)) r3) (fun w7 hi7 hl7 r7 => if w7 = 0 then if v8 = 0 then if xok (hi3 90 33) 72 = true then xbV (F_X12_put ((xu hi7 93 (Int32.toNatClampNeg (hi3 90 33)) (hi3 90 31)) 90 33) (xu hi7 93 (Int32.toNatClampNeg (hi3 90 33)) (hi3 90 31)) (xu hl7 94 (Int32.toNatClampNeg (hi3 90 33)) (hl3 90 32)) r7) (fun hi12 hl12 r12 => some ((0 : Int32), hi12, hl12, r12)) else none else some (w7, hi7, hl7, r7) else some (w7, hi7, hl7, r7)) else none else some (w3, hi3, hl3, r3)) else none
set_option maxRecDepth 20000 in
set_option maxHeartbeats 2000000 in
theorem r_X12_swaps (v1 : Int32) (v2 : Int32) (v3 : Int32) (v4 : Int32) (v5 : Int32) (v6 : Int64) (v8 : Int32) (hi : Nat → Nat → Int32) (hl : Nat → Nat → Int64) (r : xRr) (o : Int32 × xSt) (h : F_X12_swaps v1 v2 v3 v4 v5 v6 v8 hi hl r = some o) : xM yX12_swaps cX12_swaps 17 1 (5, 0, 0) z [.ref 90, .int v1, .int v2, .int v3, .int v4, .int v5, .long v6, .int v8] (xhp hi hl r) (xoI o) := by
  refine x_meth2 (C := RX12) (ini := false) (L := [some (.ref 90), some (.int v1), some (.int v2), some (.int v3), some (.int v4), some (.int v5), some (.long v6), none, some (.int v8), none, none, none, none, none, none, none, none]) rfl (by decide) (fun h9 => by cases h9) (by decide) (Nat.le_of_ble_eq_true rfl) rfl ?_
  refine x_aload_n (pc' := 1) dX12_swaps_0 rfl rfl ?_
  refine x_geti (pc' := 4) dX12_swaps_1 f_X12_182 (by decide) rfl rfl rfl ?_
  refine x_istore (pc' := 6) (L' := [some (.ref 90), some (.int v1), some (.int v2), some (.int v3), some (.int v4), some (.int v5), some (.long v6), none, some (.int v8), some (.int (hi 90 31)), none, none, none, none, none, none, none]) dX12_swaps_4 (Nat.le_of_ble_eq_true rfl) rfl rfl ?_
  refine x_aload_n (pc' := 7) dX12_swaps_6 rfl rfl ?_
  refine x_getl (pc' := 10) dX12_swaps_7 f_X12_185 (by decide) rfl rfl rfl ?_
  refine x_lstore (pc' := 12) (L' := [some (.ref 90), some (.int v1), some (.int v2), some (.int v3), some (.int v4), some (.int v5), some (.long v6), none, some (.int v8), some (.int (hi 90 31)), some (.long (hl 90 32)), none, none, none, none, none, none]) dX12_swaps_10 (Nat.le_of_ble_eq_true rfl) rfl rfl ?_
  refine x_aload_n (pc' := 13) dX12_swaps_12 rfl rfl ?_
  refine x_iload (pc' := 15) dX12_swaps_13 rfl rfl ?_
  refine x_puti (pc' := 18) dX12_swaps_15 f_X12_182 (Or.inl rfl) (by decide) rfl rfl rfl ?_
  refine x_aload_n (pc' := 19) dX12_swaps_18 rfl rfl ?_
  refine x_lload (pc' := 21) dX12_swaps_19 rfl rfl ?_
  refine x_putl (pc' := 24) dX12_swaps_21 f_X12_185 (Or.inl rfl) (by decide) rfl rfl rfl ?_
  refine x_aload_n (pc' := 25) dX12_swaps_24 rfl rfl ?_
  refine x_iload_n (pc' := 26) dX12_swaps_25 rfl rfl ?_
  refine x_iload (pc' := 28) dX12_swaps_26 rfl rfl ?_
  refine x_aload_n (pc' := 29) dX12_swaps_28 rfl rfl ?_
  refine x_getr (pc' := 32) (t := 99) dX12_swaps_29 f_X12_35 (by decide) rfl rfl rfl rfl ?_
  refine x_iload_n (pc' := 33) dX12_swaps_32 rfl rfl ?_
  refine xg_if h (fun g1 h => ?_)
  refine x_iald (pc' := 34) dX12_swaps_33 (by decide) rfl (xok_in g1) rfl ?_
  refine xg_bI h (fun w3 hi3 hl3 r3 e2 h => ?_)
  refine x_callV (pc' := 37) (S := []) (As := [.int v3, .int v4, .int ((xu hi 90 31 v5) 99 (Int32.toNatClampNeg v1))]) (b' := (4, 0, 0)) dX12_swaps_34 l_X12_245 m_X12_write rfl rfl (show 90 < 122 by decide) rfl (Nat.le_of_ble_eq_true rfl) (Nat.le_of_ble_eq_true rfl) (Nat.le_of_ble_eq_true rfl) (Nat.le_of_ble_eq_true rfl) (r_X12_write _ _ _ _ _ _ _ e2) rfl ?_
  refine x_istore (pc' := 39) (L' := [some (.ref 90), some (.int v1), some (.int v2), some (.int v3), some (.int v4), some (.int v5), some (.long v6), none, some (.int v8), some (.int (hi 90 31)), some (.long (hl 90 32)), none, some (.int w3), none, none, none, none]) dX12_swaps_37 (Nat.le_of_ble_eq_true rfl) rfl rfl ?_
  refine x_iload (pc' := 41) dX12_swaps_39 rfl rfl ?_
  refine xg_ite h (fun g4 h => ?_) (fun g4 h => ?_)
  · refine x_if_eq (tgt := 47) (pc' := 44) dX12_swaps_41 (by decide) rfl (fun _ => ?_) (fun hn => absurd g4 hn)
    refine x_aload_n (pc' := 48) dX12_swaps_47 rfl rfl ?_
    refine x_geti (pc' := 51) dX12_swaps_48 f_X12_222 (by decide) rfl rfl rfl ?_
    refine x_istore (pc' := 53) (L' := [some (.ref 90), some (.int v1), some (.int v2), some (.int v3), some (.int v4), some (.int v5), some (.long v6), none, some (.int v8), some (.int (hi 90 31)), some (.long (hl 90 32)), none, some (.int w3), some (.int (hi3 90 33)), none, none, none]) dX12_swaps_51 (Nat.le_of_ble_eq_true rfl) rfl rfl ?_
    refine x_aload_n (pc' := 54) dX12_swaps_53 rfl rfl ?_
    refine x_geti (pc' := 57) dX12_swaps_54 f_X12_182 (by decide) rfl rfl rfl ?_
    refine x_istore (pc' := 59) (L' := [some (.ref 90), some (.int v1), some (.int v2), some (.int v3), some (.int v4), some (.int v5), some (.long v6), none, some (.int v8), some (.int (hi 90 31)), some (.long (hl 90 32)), none, some (.int w3), some (.int (hi3 90 33)), some (.int (hi3 90 31)), none, none]) dX12_swaps_57 (Nat.le_of_ble_eq_true rfl) rfl rfl ?_
    refine x_aload_n (pc' := 60) dX12_swaps_59 rfl rfl ?_
    refine x_getl (pc' := 63) dX12_swaps_60 f_X12_185 (by decide) rfl rfl rfl ?_
    refine x_lstore (pc' := 65) (L' := [some (.ref 90), some (.int v1), some (.int v2), some (.int v3), some (.int v4), some (.int v5), some (.long v6), none, some (.int v8), some (.int (hi 90 31)), some (.long (hl 90 32)), none, some (.int w3), some (.int (hi3 90 33)), some (.int (hi3 90 31)), some (.long (hl3 90 32)), none]) dX12_swaps_63 (Nat.le_of_ble_eq_true rfl) rfl rfl ?_
    refine x_aload_n (pc' := 66) dX12_swaps_65 rfl rfl ?_
    refine x_iload (pc' := 68) dX12_swaps_66 rfl rfl ?_
    refine x_puti (pc' := 71) dX12_swaps_68 f_X12_182 (Or.inl rfl) (by decide) rfl rfl rfl ?_
    refine x_aload_n (pc' := 72) dX12_swaps_71 rfl rfl ?_
    refine x_lload (pc' := 74) dX12_swaps_72 rfl rfl ?_
    refine x_putl (pc' := 77) dX12_swaps_74 f_X12_185 (Or.inl rfl) (by decide) rfl rfl rfl ?_
    refine x_aload_n (pc' := 78) dX12_swaps_77 rfl rfl ?_
    refine x_iload_n (pc' := 79) dX12_swaps_78 rfl rfl ?_
    refine x_iload_n (pc' := 80) dX12_swaps_79 rfl rfl ?_
    refine x_aload_n (pc' := 81) dX12_swaps_80 rfl rfl ?_
    refine x_getr (pc' := 84) (t := 99) dX12_swaps_81 f_X12_35 (by decide) rfl rfl rfl rfl ?_
    refine x_iload_n (pc' := 85) dX12_swaps_84 rfl rfl ?_
    refine xg_if h (fun g5 h => ?_)
    refine x_iald (pc' := 86) dX12_swaps_85 (by decide) rfl (xok_in g5) rfl ?_
    refine xg_bI h (fun w7 hi7 hl7 r7 e6 h => ?_)
    refine x_callV (pc' := 89) (S := []) (As := [.int v1, .int v2, .int ((xu hi3 90 31 (hi 90 31)) 99 (Int32.toNatClampNeg v3))]) (b' := (4, 0, 0)) dX12_swaps_86 l_X12_245 m_X12_write rfl rfl (show 90 < 122 by decide) rfl (Nat.le_of_ble_eq_true rfl) (Nat.le_of_ble_eq_true rfl) (Nat.le_of_ble_eq_true rfl) (Nat.le_of_ble_eq_true rfl) (r_X12_write _ _ _ _ _ _ _ e6) rfl ?_
    refine x_istore (pc' := 91) (L' := [some (.ref 90), some (.int v1), some (.int v2), some (.int v3), some (.int v4), some (.int v5), some (.long v6), none, some (.int v8), some (.int (hi 90 31)), some (.long (hl 90 32)), none, some (.int w7), some (.int (hi3 90 33)), some (.int (hi3 90 31)), some (.long (hl3 90 32)), none]) dX12_swaps_89 (Nat.le_of_ble_eq_true rfl) rfl rfl ?_
    refine x_iload (pc' := 93) dX12_swaps_91 rfl rfl ?_
    refine xg_ite h (fun g8 h => ?_) (fun g8 h => ?_)
    · refine x_if_ne (tgt := 101) (pc' := 96) dX12_swaps_93 (by decide) rfl (fun hn => absurd g8 hn) (fun _ => ?_)
      refine x_iload (pc' := 98) dX12_swaps_96 rfl rfl ?_
      refine xg_ite h (fun g9 h => ?_) (fun g9 h => ?_)
      · refine x_if_eq (tgt := 104) (pc' := 101) dX12_swaps_98 (by decide) rfl (fun _ => ?_) (fun hn => absurd g9 hn)
        refine x_aload_n (pc' := 105) dX12_swaps_104 rfl rfl ?_
        refine x_getr (pc' := 108) (t := 93) dX12_swaps_105 f_X12_16 (by decide) rfl rfl rfl rfl ?_
        refine x_iload (pc' := 110) dX12_swaps_108 rfl rfl ?_
        refine x_iload (pc' := 112) dX12_swaps_110 rfl rfl ?_
        refine xg_if h (fun g10 h => ?_)
        refine x_iast (pc' := 113) dX12_swaps_112 (by decide) rfl (xok_in g10) rfl ?_
        refine x_aload_n (pc' := 114) dX12_swaps_113 rfl rfl ?_
        refine x_getr (pc' := 117) (t := 94) dX12_swaps_114 f_X12_19 (by decide) rfl rfl rfl rfl ?_
        refine x_iload (pc' := 119) dX12_swaps_117 rfl rfl ?_
        refine x_lload (pc' := 121) dX12_swaps_119 rfl rfl ?_
        refine x_last (pc' := 122) dX12_swaps_121 (by decide) rfl (xok_in g10) rfl ?_
        refine x_aload_n (pc' := 123) dX12_swaps_122 rfl rfl ?_
        refine x_aload_n (pc' := 124) dX12_swaps_123 rfl rfl ?_
        refine x_geti (pc' := 127) dX12_swaps_124 f_X12_222 (by decide) rfl rfl rfl ?_
        refine xg_bV h (fun hi12 hl12 r12 e11 h => ?_)
        refine x_callV (pc' := 130) (S := []) (As := [.int ((xu hi7 93 (Int32.toNatClampNeg (hi3 90 33)) (hi3 90 31)) 90 33)]) (b' := (0, 0, 0)) dX12_swaps_127 l_X12_255 m_X12_put rfl rfl (show 90 < 122 by decide) rfl (Nat.le_of_ble_eq_true rfl) (Nat.le_of_ble_eq_true rfl) (Nat.le_of_ble_eq_true rfl) (Nat.le_of_ble_eq_true rfl) (r_X12_put _ _ _ _ _ e11) rfl ?_
        refine x_iconst (pc' := 131) (x := 0) dX12_swaps_130 (by decide) rfl ?_
        obtain rfl := Option.some.inj h
        exact x_iret dX12_swaps_131 rfl rfl (Nat.le_of_ble_eq_true rfl) rfl
      · refine x_if_eq (tgt := 104) (pc' := 101) dX12_swaps_98 (by decide) rfl (fun hn => absurd hn g9) (fun _ => ?_)
        refine x_iload (pc' := 103) dX12_swaps_101 rfl rfl ?_
        obtain rfl := Option.some.inj h
        exact x_iret dX12_swaps_103 rfl rfl (Nat.le_of_ble_eq_true rfl) rfl
    · refine x_if_ne (tgt := 101) (pc' := 96) dX12_swaps_93 (by decide) rfl (fun _ => ?_) (fun hn => absurd hn g8)
      refine x_iload (pc' := 103) dX12_swaps_101 rfl rfl ?_
      obtain rfl := Option.some.inj h
      exact x_iret dX12_swaps_103 rfl rfl (Nat.le_of_ble_eq_true rfl) rfl
  · refine x_if_eq (tgt := 47) (pc' := 44) dX12_swaps_41 (by decide) rfl (fun hn => absurd hn g4) (fun _ => ?_)
    refine x_iload (pc' := 46) dX12_swaps_44 rfl rfl ?_
    obtain rfl := Option.some.inj h
    exact x_iret dX12_swaps_46 rfl rfl (Nat.le_of_ble_eq_true rfl) rfl
def F_X12_summed_30 (hi : Nat → Nat → Int32) (hl : Nat → Nat → Int64) (r : xRr) : Option (Int32 × xSt) := some (((-7) : Int32), hi, hl, r)
set_option maxRecDepth 20000 in
set_option maxHeartbeats 2000000 in
theorem r_X12_summed_30 (hi : Nat → Nat → Int32) (hl : Nat → Nat → Int64) (r : xRr) (o : Int32 × xSt) (h : F_X12_summed_30 hi hl r = some o) : xR (RX12, cX12_summed, 1, false, 1) (0, 0, 0) z 0 0 30 [some (.ref 90)] [] (xhp hi hl r) (xoI o) := by
  refine x_bipush (pc' := 32) (x := (-7)) dX12_summed_30 (by decide) rfl ?_
  refine x_goto (tgt := 36) dX12_summed_32 (by decide) ?_
  obtain rfl := Option.some.inj h
  exact x_iret dX12_summed_36 rfl rfl (Nat.le_of_ble_eq_true rfl) rfl
def F_X12_summed (hi : Nat → Nat → Int32) (hl : Nat → Nat → Int64) (r : xRr) : Option (Int32 × xSt) := if (hi 90 31) = (10 : Int32) then some (((-9) : Int32), hi, hl, r) else if (hi 90 31) = (9 : Int32) then F_X12_summed_30 hi hl r else if (hi 90 31) = 0 then F_X12_summed_30 hi hl r else some ((0 : Int32), hi, hl, r)
set_option maxRecDepth 20000 in
set_option maxHeartbeats 2000000 in
theorem r_X12_summed (hi : Nat → Nat → Int32) (hl : Nat → Nat → Int64) (r : xRr) (o : Int32 × xSt) (h : F_X12_summed hi hl r = some o) : xM yX12_summed cX12_summed 1 1 (0, 0, 0) z [.ref 90] (xhp hi hl r) (xoI o) := by
  refine x_meth2 (C := RX12) (ini := false) (L := [some (.ref 90)]) rfl (by decide) (fun h9 => by cases h9) (by decide) (Nat.le_of_ble_eq_true rfl) rfl ?_
  refine x_aload_n (pc' := 1) dX12_summed_0 rfl rfl ?_
  refine x_geti (pc' := 4) dX12_summed_1 f_X12_182 (by decide) rfl rfl rfl ?_
  refine x_bipush (pc' := 6) (x := 10) dX12_summed_4 (by decide) rfl ?_
  refine xg_ite h (fun g1 h => ?_) (fun g1 h => ?_)
  · refine x_icmp_ne (tgt := 14) (pc' := 9) dX12_summed_6 (by decide) rfl (fun hn => absurd g1 hn) (fun _ => ?_)
    refine x_bipush (pc' := 11) (x := (-9)) dX12_summed_9 (by decide) rfl ?_
    refine x_goto (tgt := 36) dX12_summed_11 (by decide) ?_
    obtain rfl := Option.some.inj h
    exact x_iret dX12_summed_36 rfl rfl (Nat.le_of_ble_eq_true rfl) rfl
  · refine x_icmp_ne (tgt := 14) (pc' := 9) dX12_summed_6 (by decide) rfl (fun _ => ?_) (fun hn => absurd hn g1)
    refine x_aload_n (pc' := 15) dX12_summed_14 rfl rfl ?_
    refine x_geti (pc' := 18) dX12_summed_15 f_X12_182 (by decide) rfl rfl rfl ?_
    refine x_bipush (pc' := 20) (x := 9) dX12_summed_18 (by decide) rfl ?_
    refine xg_ite h (fun g2 h => ?_) (fun g2 h => ?_)
    · refine x_icmp_eq (tgt := 30) (pc' := 23) dX12_summed_20 (by decide) rfl (fun _ => ?_) (fun hn => absurd g2 hn)
      exact r_X12_summed_30 _ _ _ _ h
    · refine x_icmp_eq (tgt := 30) (pc' := 23) dX12_summed_20 (by decide) rfl (fun hn => absurd hn g2) (fun _ => ?_)
      refine x_aload_n (pc' := 24) dX12_summed_23 rfl rfl ?_
      refine x_geti (pc' := 27) dX12_summed_24 f_X12_182 (by decide) rfl rfl rfl ?_
      refine xg_ite h (fun g3 h => ?_) (fun g3 h => ?_)
      · refine x_if_ne (tgt := 35) (pc' := 30) dX12_summed_27 (by decide) rfl (fun hn => absurd g3 hn) (fun _ => ?_)
        exact r_X12_summed_30 _ _ _ _ h
      · refine x_if_ne (tgt := 35) (pc' := 30) dX12_summed_27 (by decide) rfl (fun _ => ?_) (fun hn => absurd hn g3)
        refine x_iconst (pc' := 36) (x := 0) dX12_summed_35 (by decide) rfl ?_
        obtain rfl := Option.some.inj h
        exact x_iret dX12_summed_36 rfl rfl (Nat.le_of_ble_eq_true rfl) rfl
def F_X12_reckoned_37 (v1 : Int32) (s0 : Int64) : Option (Int64) := if v1 = (4 : Int32) then some (Int32.toInt64 (Int64.toInt32 s0)) else xbP (F_X12_as v1 s0) (fun w3 => some w3)
set_option maxRecDepth 20000 in
set_option maxHeartbeats 2000000 in
theorem r_X12_reckoned_37 (v1 : Int32) (s0 : Int64) (d0 : Option Value) (d2 : Option Value) (d3 : Option Value) (d4 : Option Value) (d5 : Option Value) (d6 : Option Value) (d7 : Option Value) (H : xHp) (o : Int64) (h : F_X12_reckoned_37 v1 s0 = some o) : xR (RX12, cX12_reckoned, 8, false, 2) (2, 0, 0) z 0 0 37 [d0, some (.int v1), d2, d3, d4, d5, d6, d7] [.long s0] H (some (.long o), H) := by
  refine x_lstore (pc' := 39) (L' := [d0, some (.int v1), d2, d3, d4, (xcl d5), some (.long s0), none]) dX12_reckoned_37 (Nat.le_of_ble_eq_true rfl) rfl rfl ?_
  refine x_iload_n (pc' := 40) dX12_reckoned_39 rfl rfl ?_
  refine x_iconst (pc' := 41) (x := 4) dX12_reckoned_40 (by decide) rfl ?_
  refine xg_ite h (fun g1 h => ?_) (fun g1 h => ?_)
  · refine x_icmp_ne (tgt := 51) (pc' := 44) dX12_reckoned_41 (by decide) rfl (fun hn => absurd g1 hn) (fun _ => ?_)
    refine x_lload (pc' := 46) dX12_reckoned_44 rfl rfl ?_
    refine x_l2i (pc' := 47) dX12_reckoned_46 rfl ?_
    refine x_i2l (pc' := 48) dX12_reckoned_47 rfl ?_
    refine x_goto (tgt := 57) dX12_reckoned_48 (by decide) ?_
    obtain rfl := Option.some.inj h
    exact x_lret dX12_reckoned_57 rfl rfl (Nat.le_of_ble_eq_true rfl) rfl
  · refine x_icmp_ne (tgt := 51) (pc' := 44) dX12_reckoned_41 (by decide) rfl (fun _ => ?_) (fun hn => absurd hn g1)
    refine x_iload_n (pc' := 52) dX12_reckoned_51 rfl rfl ?_
    refine x_lload (pc' := 54) dX12_reckoned_52 rfl rfl ?_
    refine xg_bP h (fun w3 e2 h => ?_)
    refine x_callS (pc' := 57) (S := []) (As := [.int v1, .long s0]) (b' := (1, 0, 0)) dX12_reckoned_54 l_X12_188 m_X12_as rfl rfl (Nat.le_of_ble_eq_true rfl) (Nat.le_of_ble_eq_true rfl) (Nat.le_of_ble_eq_true rfl) (Nat.le_of_ble_eq_true rfl) (r_X12_as _ _ _ _ e2) rfl ?_
    obtain rfl := Option.some.inj h
    exact x_lret dX12_reckoned_57 rfl rfl (Nat.le_of_ble_eq_true rfl) rfl
def F_X12_reckoned (v0 : Int32) (v1 : Int32) (v2 : Int64) (v4 : Int64) : Option (Int64) := if v0 = (1 : Int32) then F_X12_reckoned_37 v1 (v2 + v4) else if v0 = (2 : Int32) then F_X12_reckoned_37 v1 (v4 - v2) else if (lg_cmp v2 v4) ≤ 0 then F_X12_reckoned_37 v1 v4 else F_X12_reckoned_37 v1 v2
set_option maxRecDepth 20000 in
set_option maxHeartbeats 2000000 in
theorem r_X12_reckoned (v0 : Int32) (v1 : Int32) (v2 : Int64) (v4 : Int64) (H : xHp) (o : Int64) (h : F_X12_reckoned v0 v1 v2 v4 = some o) : xM yX12_reckoned cX12_reckoned 8 2 (2, 0, 0) z [.int v0, .int v1, .long v2, .long v4] H (some (.long o), H) := by
  refine x_meth2 (C := RX12) (ini := false) (L := [some (.int v0), some (.int v1), some (.long v2), none, some (.long v4), none, none, none]) rfl (by decide) (fun h9 => by cases h9) (by decide) (Nat.le_of_ble_eq_true rfl) rfl ?_
  refine x_iload_n (pc' := 1) dX12_reckoned_0 rfl rfl ?_
  refine x_iconst (pc' := 2) (x := 1) dX12_reckoned_1 (by decide) rfl ?_
  refine xg_ite h (fun g1 h => ?_) (fun g1 h => ?_)
  · refine x_icmp_ne (tgt := 12) (pc' := 5) dX12_reckoned_2 (by decide) rfl (fun hn => absurd g1 hn) (fun _ => ?_)
    refine x_lload_n (pc' := 6) dX12_reckoned_5 rfl rfl ?_
    refine x_lload (pc' := 8) dX12_reckoned_6 rfl rfl ?_
    refine x_ladd (pc' := 9) dX12_reckoned_8 rfl ?_
    refine x_goto (tgt := 37) dX12_reckoned_9 (by decide) ?_
    exact r_X12_reckoned_37 _ _ _ _ _ _ _ _ _ _ _ h
  · refine x_icmp_ne (tgt := 12) (pc' := 5) dX12_reckoned_2 (by decide) rfl (fun _ => ?_) (fun hn => absurd hn g1)
    refine x_iload_n (pc' := 13) dX12_reckoned_12 rfl rfl ?_
    refine x_iconst (pc' := 14) (x := 2) dX12_reckoned_13 (by decide) rfl ?_
    refine xg_ite h (fun g2 h => ?_) (fun g2 h => ?_)
    · refine x_icmp_ne (tgt := 24) (pc' := 17) dX12_reckoned_14 (by decide) rfl (fun hn => absurd g2 hn) (fun _ => ?_)
      refine x_lload (pc' := 19) dX12_reckoned_17 rfl rfl ?_
      refine x_lload_n (pc' := 20) dX12_reckoned_19 rfl rfl ?_
      refine x_lsub (pc' := 21) dX12_reckoned_20 rfl ?_
      refine x_goto (tgt := 37) dX12_reckoned_21 (by decide) ?_
      exact r_X12_reckoned_37 _ _ _ _ _ _ _ _ _ _ _ h
    · refine x_icmp_ne (tgt := 24) (pc' := 17) dX12_reckoned_14 (by decide) rfl (fun _ => ?_) (fun hn => absurd hn g2)
      refine x_lload_n (pc' := 25) dX12_reckoned_24 rfl rfl ?_
      refine x_lload (pc' := 27) dX12_reckoned_25 rfl rfl ?_
      refine x_lcmp (pc' := 28) dX12_reckoned_27 rfl ?_
      refine xg_ite h (fun g3 h => ?_) (fun g3 h => ?_)
      · refine x_if_le (tgt := 35) (pc' := 31) dX12_reckoned_28 (by decide) rfl (fun _ => ?_) (fun hn => absurd g3 hn)
        refine x_lload (pc' := 37) dX12_reckoned_35 rfl rfl ?_
        exact r_X12_reckoned_37 _ _ _ _ _ _ _ _ _ _ _ h
      · refine x_if_le (tgt := 35) (pc' := 31) dX12_reckoned_28 (by decide) rfl (fun hn => absurd hn g3) (fun _ => ?_)
        refine x_lload_n (pc' := 32) dX12_reckoned_31 rfl rfl ?_
        refine x_goto (tgt := 37) dX12_reckoned_32 (by decide) ?_
        exact r_X12_reckoned_37 _ _ _ _ _ _ _ _ _ _ _ h
def F_X12_goes_33 (v7 : Int32) (hi : Nat → Nat → Int32) (hl : Nat → Nat → Int64) (r : xRr) : Option (Int32 × xSt) := if v7 = 0 then some ((1 : Int32), hi, hl, r) else some (v7, hi, hl, r)
set_option maxRecDepth 20000 in
set_option maxHeartbeats 2000000 in
theorem r_X12_goes_33 (v7 : Int32) (d1 : Option Value) (d2 : Option Value) (d3 : Option Value) (d4 : Option Value) (d5 : Option Value) (d6 : Option Value) (d8 : Option Value) (d9 : Option Value) (d10 : Option Value) (d11 : Option Value) (d12 : Option Value) (d13 : Option Value) (d14 : Option Value) (hi : Nat → Nat → Int32) (hl : Nat → Nat → Int64) (r : xRr) (o : Int32 × xSt) (h : F_X12_goes_33 v7 hi hl r = some o) : xR (RX12, cX12_goes, 15, false, 1) (6, 0, 0) z 0 0 33 [some (.ref 90), d1, d2, d3, d4, d5, d6, some (.int v7), d8, d9, d10, d11, d12, d13, d14] [] (xhp hi hl r) (xoI o) := by
  refine x_iload (pc' := 35) dX12_goes_33 rfl rfl ?_
  refine xg_ite h (fun g1 h => ?_) (fun g1 h => ?_)
  · refine x_if_eq (tgt := 43) (pc' := 38) dX12_goes_35 (by decide) rfl (fun _ => ?_) (fun hn => absurd g1 hn)
    refine x_iconst (pc' := 44) (x := 1) dX12_goes_43 (by decide) rfl ?_
    obtain rfl := Option.some.inj h
    exact x_iret dX12_goes_44 rfl rfl (Nat.le_of_ble_eq_true rfl) rfl
  · refine x_if_eq (tgt := 43) (pc' := 38) dX12_goes_35 (by decide) rfl (fun hn => absurd hn g1) (fun _ => ?_)
    refine x_iload (pc' := 40) dX12_goes_38 rfl rfl ?_
    refine x_goto (tgt := 44) dX12_goes_40 (by decide) ?_
    obtain rfl := Option.some.inj h
    exact x_iret dX12_goes_44 rfl rfl (Nat.le_of_ble_eq_true rfl) rfl
def F_X12_goes_114 (v7 : Int32) (hi : Nat → Nat → Int32) (hl : Nat → Nat → Int64) (r : xRr) : Option (Int32 × xSt) := if v7 = 0 then some ((1 : Int32), hi, hl, r) else some (v7, hi, hl, r)
set_option maxRecDepth 20000 in
set_option maxHeartbeats 2000000 in
theorem r_X12_goes_114 (v7 : Int32) (d1 : Option Value) (d2 : Option Value) (d3 : Option Value) (d4 : Option Value) (d5 : Option Value) (d6 : Option Value) (d8 : Option Value) (d9 : Option Value) (d10 : Option Value) (d11 : Option Value) (d12 : Option Value) (d13 : Option Value) (d14 : Option Value) (hi : Nat → Nat → Int32) (hl : Nat → Nat → Int64) (r : xRr) (o : Int32 × xSt) (h : F_X12_goes_114 v7 hi hl r = some o) : xR (RX12, cX12_goes, 15, false, 1) (6, 0, 0) z 0 0 114 [some (.ref 90), d1, d2, d3, d4, d5, d6, some (.int v7), d8, d9, d10, d11, d12, d13, d14] [] (xhp hi hl r) (xoI o) := by
  refine x_iload (pc' := 116) dX12_goes_114 rfl rfl ?_
  refine xg_ite h (fun g1 h => ?_) (fun g1 h => ?_)
  · refine x_if_eq (tgt := 124) (pc' := 119) dX12_goes_116 (by decide) rfl (fun _ => ?_) (fun hn => absurd g1 hn)
    refine x_iconst (pc' := 125) (x := 1) dX12_goes_124 (by decide) rfl ?_
    obtain rfl := Option.some.inj h
    exact x_iret dX12_goes_125 rfl rfl (Nat.le_of_ble_eq_true rfl) rfl
  · refine x_if_eq (tgt := 124) (pc' := 119) dX12_goes_116 (by decide) rfl (fun hn => absurd hn g1) (fun _ => ?_)
    refine x_iload (pc' := 121) dX12_goes_119 rfl rfl ?_
    refine x_goto (tgt := 125) dX12_goes_121 (by decide) ?_
    obtain rfl := Option.some.inj h
    exact x_iret dX12_goes_125 rfl rfl (Nat.le_of_ble_eq_true rfl) rfl
def F_X12_goes_316 (v6 : Int32) (s1 : Int32) (s2 : Int32) (s3 : Int32) (hi : Nat → Nat → Int32) (hl : Nat → Nat → Int64) (r : xRr) : Option (Int32 × xSt) := xbI (F_X12_ends s1 s2 s3 v6 hi hl r) (fun w2 hi2 hl2 r2 => some (w2, hi2, hl2, r2))
set_option maxRecDepth 20000 in
set_option maxHeartbeats 2000000 in
theorem r_X12_goes_316 (v6 : Int32) (s1 : Int32) (s2 : Int32) (s3 : Int32) (d1 : Option Value) (d2 : Option Value) (d3 : Option Value) (d4 : Option Value) (d5 : Option Value) (d7 : Option Value) (d8 : Option Value) (d9 : Option Value) (d10 : Option Value) (d11 : Option Value) (d12 : Option Value) (d13 : Option Value) (d14 : Option Value) (hi : Nat → Nat → Int32) (hl : Nat → Nat → Int64) (r : xRr) (o : Int32 × xSt) (h : F_X12_goes_316 v6 s1 s2 s3 hi hl r = some o) : xR (RX12, cX12_goes, 15, false, 1) (6, 0, 0) z 0 0 316 [some (.ref 90), d1, d2, d3, d4, d5, some (.int v6), d7, d8, d9, d10, d11, d12, d13, d14] [.int s3, .int s2, .int s1, .ref 90] (xhp hi hl r) (xoI o) := by
  refine x_iload (pc' := 318) dX12_goes_316 rfl rfl ?_
  refine xg_bI h (fun w2 hi2 hl2 r2 e1 h => ?_)
  refine x_callV (pc' := 321) (S := []) (As := [.int s1, .int s2, .int s3, .int v6]) (b' := (5, 0, 0)) dX12_goes_318 l_X12_259 m_X12_ends rfl rfl (show 90 < 122 by decide) rfl (Nat.le_of_ble_eq_true rfl) (Nat.le_of_ble_eq_true rfl) (Nat.le_of_ble_eq_true rfl) (Nat.le_of_ble_eq_true rfl) (r_X12_ends _ _ _ _ _ _ _ _ e1) rfl ?_
  obtain rfl := Option.some.inj h
  exact x_iret dX12_goes_321 rfl rfl (Nat.le_of_ble_eq_true rfl) rfl
def F_X12_goes_292 (v4 : Int32) (v5 : Int32) (v6 : Int32) (v14 : Int32) (hi : Nat → Nat → Int32) (hl : Nat → Nat → Int64) (r : xRr) : Option (Int32 × xSt) := if xok v4 8 = true then if (hi 99 (Int32.toNatClampNeg v4)) = (8 : Int32) then F_X12_goes_316 v6 v4 v5 (8 : Int32) hi hl r else F_X12_goes_316 v6 v4 v5 v14 hi hl r else none
set_option maxRecDepth 20000 in
set_option maxHeartbeats 2000000 in
theorem r_X12_goes_292 (v4 : Int32) (v5 : Int32) (v6 : Int32) (v14 : Int32) (d1 : Option Value) (d2 : Option Value) (d3 : Option Value) (d7 : Option Value) (d8 : Option Value) (d9 : Option Value) (d10 : Option Value) (d11 : Option Value) (d12 : Option Value) (d13 : Option Value) (hi : Nat → Nat → Int32) (hl : Nat → Nat → Int64) (r : xRr) (o : Int32 × xSt) (h : F_X12_goes_292 v4 v5 v6 v14 hi hl r = some o) : xR (RX12, cX12_goes, 15, false, 1) (6, 0, 0) z 0 0 292 [some (.ref 90), d1, d2, d3, some (.int v4), some (.int v5), some (.int v6), d7, d8, d9, d10, d11, d12, d13, some (.int v14)] [] (xhp hi hl r) (xoI o) := by
  refine x_aload_n (pc' := 293) dX12_goes_292 rfl rfl ?_
  refine x_iload (pc' := 295) dX12_goes_293 rfl rfl ?_
  refine x_iload (pc' := 297) dX12_goes_295 rfl rfl ?_
  refine x_aload_n (pc' := 298) dX12_goes_297 rfl rfl ?_
  refine x_getr (pc' := 301) (t := 99) dX12_goes_298 f_X12_35 (by decide) rfl rfl rfl rfl ?_
  refine x_iload (pc' := 303) dX12_goes_301 rfl rfl ?_
  refine xg_if h (fun g1 h => ?_)
  refine x_iald (pc' := 304) dX12_goes_303 (by decide) rfl (xok_in g1) rfl ?_
  refine x_bipush (pc' := 306) (x := 8) dX12_goes_304 (by decide) rfl ?_
  refine xg_ite h (fun g2 h => ?_) (fun g2 h => ?_)
  · refine x_icmp_ne (tgt := 314) (pc' := 309) dX12_goes_306 (by decide) rfl (fun hn => absurd g2 hn) (fun _ => ?_)
    refine x_bipush (pc' := 311) (x := 8) dX12_goes_309 (by decide) rfl ?_
    refine x_goto (tgt := 316) dX12_goes_311 (by decide) ?_
    exact r_X12_goes_316 _ _ _ _ _ _ _ _ _ _ _ _ _ _ _ _ _ _ _ _ _ h
  · refine x_icmp_ne (tgt := 314) (pc' := 309) dX12_goes_306 (by decide) rfl (fun _ => ?_) (fun hn => absurd hn g2)
    refine x_iload (pc' := 316) dX12_goes_314 rfl rfl ?_
    exact r_X12_goes_316 _ _ _ _ _ _ _ _ _ _ _ _ _ _ _ _ _ _ _ _ _ h
def F_X12_goes_230 (v1 : Int32) (v4 : Int32) (v5 : Int32) (v6 : Int32) (v9 : Int64) (v12 : Int64) (s0 : Int32) (hi : Nat → Nat → Int32) (hl : Nat → Nat → Int64) (r : xRr) : Option (Int32 × xSt) := xbP (F_X12_as s0 v9) (fun w2 => xbP (F_X12_as s0 v12) (fun w4 => xbP (F_X12_reckoned v1 s0 w2 w4) (fun w6 => if v6 = 0 then if s0 ≤ (4 : Int32) then F_X12_goes_292 v4 v5 v6 s0 (xu hi 90 31 s0) (xu hl 90 32 w6) r else xbP (F_X12_in ((xu hl 90 32 w6) 90 32) (-1152921504606846976 : Int64) (1152921504606846976 : Int64)) (fun w10 => if w10 = 0 then some (((-10) : Int32), (xu hi 90 31 s0), (xu hl 90 32 w6), r) else F_X12_goes_292 v4 v5 v6 s0 (xu hi 90 31 s0) (xu hl 90 32 w6) r) else F_X12_goes_292 v4 v5 v6 s0 (xu hi 90 31 s0) (xu hl 90 32 w6) r)))
set_option maxRecDepth 20000 in
set_option maxHeartbeats 2000000 in
theorem r_X12_goes_230 (v1 : Int32) (v4 : Int32) (v5 : Int32) (v6 : Int32) (v9 : Int64) (v12 : Int64) (s0 : Int32) (d2 : Option Value) (d3 : Option Value) (d7 : Option Value) (d8 : Option Value) (d10 : Option Value) (d11 : Option Value) (d13 : Option Value) (d14 : Option Value) (hi : Nat → Nat → Int32) (hl : Nat → Nat → Int64) (r : xRr) (o : Int32 × xSt) (h : F_X12_goes_230 v1 v4 v5 v6 v9 v12 s0 hi hl r = some o) : xR (RX12, cX12_goes, 15, false, 1) (6, 0, 0) z 0 0 230 [some (.ref 90), some (.int v1), d2, d3, some (.int v4), some (.int v5), some (.int v6), d7, d8, some (.long v9), d10, d11, some (.long v12), d13, d14] [.int s0] (xhp hi hl r) (xoI o) := by
  refine x_istore (pc' := 232) (L' := [some (.ref 90), some (.int v1), d2, d3, some (.int v4), some (.int v5), some (.int v6), d7, d8, some (.long v9), d10, d11, some (.long v12), (xcl d13), some (.int s0)]) dX12_goes_230 (Nat.le_of_ble_eq_true rfl) rfl rfl ?_
  refine x_aload_n (pc' := 233) dX12_goes_232 rfl rfl ?_
  refine x_iload_n (pc' := 234) dX12_goes_233 rfl rfl ?_
  refine x_iload (pc' := 236) dX12_goes_234 rfl rfl ?_
  refine x_iload (pc' := 238) dX12_goes_236 rfl rfl ?_
  refine x_lload (pc' := 240) dX12_goes_238 rfl rfl ?_
  refine xg_bP h (fun w2 e1 h => ?_)
  refine x_callS (pc' := 243) (S := [.int s0, .int v1, .ref 90]) (As := [.int s0, .long v9]) (b' := (1, 0, 0)) dX12_goes_240 l_X12_188 m_X12_as rfl rfl (Nat.le_of_ble_eq_true rfl) (Nat.le_of_ble_eq_true rfl) (Nat.le_of_ble_eq_true rfl) (Nat.le_of_ble_eq_true rfl) (r_X12_as _ _ _ _ e1) rfl ?_
  refine x_iload (pc' := 245) dX12_goes_243 rfl rfl ?_
  refine x_lload (pc' := 247) dX12_goes_245 rfl rfl ?_
  refine xg_bP h (fun w4 e3 h => ?_)
  refine x_callS (pc' := 250) (S := [.long w2, .int s0, .int v1, .ref 90]) (As := [.int s0, .long v12]) (b' := (1, 0, 0)) dX12_goes_247 l_X12_188 m_X12_as rfl rfl (Nat.le_of_ble_eq_true rfl) (Nat.le_of_ble_eq_true rfl) (Nat.le_of_ble_eq_true rfl) (Nat.le_of_ble_eq_true rfl) (r_X12_as _ _ _ _ e3) rfl ?_
  refine xg_bP h (fun w6 e5 h => ?_)
  refine x_callS (pc' := 253) (S := [.ref 90]) (As := [.int v1, .int s0, .long w2, .long w4]) (b' := (2, 0, 0)) dX12_goes_250 l_X12_271 m_X12_reckoned rfl rfl (Nat.le_of_ble_eq_true rfl) (Nat.le_of_ble_eq_true rfl) (Nat.le_of_ble_eq_true rfl) (Nat.le_of_ble_eq_true rfl) (r_X12_reckoned _ _ _ _ _ _ e5) rfl ?_
  refine x_putl (pc' := 256) dX12_goes_253 f_X12_185 (Or.inl rfl) (by decide) rfl rfl rfl ?_
  refine x_aload_n (pc' := 257) dX12_goes_256 rfl rfl ?_
  refine x_iload (pc' := 259) dX12_goes_257 rfl rfl ?_
  refine x_puti (pc' := 262) dX12_goes_259 f_X12_182 (Or.inl rfl) (by decide) rfl rfl rfl ?_
  refine x_iload (pc' := 264) dX12_goes_262 rfl rfl ?_
  refine xg_ite h (fun g7 h => ?_) (fun g7 h => ?_)
  · refine x_if_ne (tgt := 292) (pc' := 267) dX12_goes_264 (by decide) rfl (fun hn => absurd g7 hn) (fun _ => ?_)
    refine x_iload (pc' := 269) dX12_goes_267 rfl rfl ?_
    refine x_iconst (pc' := 270) (x := 4) dX12_goes_269 (by decide) rfl ?_
    refine xg_ite h (fun g8 h => ?_) (fun g8 h => ?_)
    · refine x_icmp_le (tgt := 292) (pc' := 273) dX12_goes_270 (by decide) rfl (fun _ => ?_) (fun hn => absurd g8 hn)
      exact r_X12_goes_292 _ _ _ _ _ _ _ _ _ _ _ _ _ _ _ _ _ _ h
    · refine x_icmp_le (tgt := 292) (pc' := 273) dX12_goes_270 (by decide) rfl (fun hn => absurd hn g8) (fun _ => ?_)
      refine x_aload_n (pc' := 274) dX12_goes_273 rfl rfl ?_
      refine x_getl (pc' := 277) dX12_goes_274 f_X12_185 (by decide) rfl rfl rfl ?_
      refine x_ldc2 (pc' := 280) dX12_goes_277 k_X12_136 rfl ?_
      refine x_ldc2 (pc' := 283) dX12_goes_280 k_X12_138 rfl ?_
      refine xg_bP h (fun w10 e9 h => ?_)
      refine x_callS (pc' := 286) (S := []) (As := [.long ((xu hl 90 32 w6) 90 32), .long (-1152921504606846976 : Int64), .long (1152921504606846976 : Int64)]) (b' := (0, 0, 0)) dX12_goes_283 l_X12_118 m_X12_in rfl rfl (Nat.le_of_ble_eq_true rfl) (Nat.le_of_ble_eq_true rfl) (Nat.le_of_ble_eq_true rfl) (Nat.le_of_ble_eq_true rfl) (r_X12_in _ _ _ _ _ e9) rfl ?_
      refine xg_ite h (fun g11 h => ?_) (fun g11 h => ?_)
      · refine x_if_ne (tgt := 292) (pc' := 289) dX12_goes_286 (by decide) rfl (fun hn => absurd g11 hn) (fun _ => ?_)
        refine x_bipush (pc' := 291) (x := (-10)) dX12_goes_289 (by decide) rfl ?_
        obtain rfl := Option.some.inj h
        exact x_iret dX12_goes_291 rfl rfl (Nat.le_of_ble_eq_true rfl) rfl
      · refine x_if_ne (tgt := 292) (pc' := 289) dX12_goes_286 (by decide) rfl (fun _ => ?_) (fun hn => absurd hn g11)
        exact r_X12_goes_292 _ _ _ _ _ _ _ _ _ _ _ _ _ _ _ _ _ _ h
  · refine x_if_ne (tgt := 292) (pc' := 267) dX12_goes_264 (by decide) rfl (fun _ => ?_) (fun hn => absurd hn g7)
    exact r_X12_goes_292 _ _ _ _ _ _ _ _ _ _ _ _ _ _ _ _ _ _ h
def F_X12_goes_216 (v1 : Int32) (v4 : Int32) (v5 : Int32) (v6 : Int32) (v9 : Int64) (v12 : Int64) (s0 : Int32) (hi : Nat → Nat → Int32) (hl : Nat → Nat → Int64) (r : xRr) : Option (Int32 × xSt) := if (4 : Int32) ≤ s0 then F_X12_goes_230 v1 v4 v5 v6 v9 v12 s0 hi hl r else F_X12_goes_230 v1 v4 v5 v6 v9 v12 (4 : Int32) hi hl r
set_option maxRecDepth 20000 in
set_option maxHeartbeats 2000000 in
theorem r_X12_goes_216 (v1 : Int32) (v4 : Int32) (v5 : Int32) (v6 : Int32) (v9 : Int64) (v12 : Int64) (s0 : Int32) (d2 : Option Value) (d3 : Option Value) (d7 : Option Value) (d8 : Option Value) (d10 : Option Value) (d11 : Option Value) (d13 : Option Value) (d14 : Option Value) (hi : Nat → Nat → Int32) (hl : Nat → Nat → Int64) (r : xRr) (o : Int32 × xSt) (h : F_X12_goes_216 v1 v4 v5 v6 v9 v12 s0 hi hl r = some o) : xR (RX12, cX12_goes, 15, false, 1) (6, 0, 0) z 0 0 216 [some (.ref 90), some (.int v1), d2, d3, some (.int v4), some (.int v5), some (.int v6), d7, d8, some (.long v9), d10, d11, some (.long v12), d13, d14] [.int s0] (xhp hi hl r) (xoI o) := by
  refine x_istore (pc' := 218) (L' := [some (.ref 90), some (.int v1), d2, d3, some (.int v4), some (.int v5), some (.int v6), d7, d8, some (.long v9), d10, d11, some (.long v12), (xcl d13), some (.int s0)]) dX12_goes_216 (Nat.le_of_ble_eq_true rfl) rfl rfl ?_
  refine x_iload (pc' := 220) dX12_goes_218 rfl rfl ?_
  refine x_iconst (pc' := 221) (x := 4) dX12_goes_220 (by decide) rfl ?_
  refine xg_ite h (fun g1 h => ?_) (fun g1 h => ?_)
  · refine x_icmp_ge (tgt := 228) (pc' := 224) dX12_goes_221 (by decide) rfl (fun _ => ?_) (fun hn => absurd g1 hn)
    refine x_iload (pc' := 230) dX12_goes_228 rfl rfl ?_
    exact r_X12_goes_230 _ _ _ _ _ _ _ _ _ _ _ _ _ _ _ _ _ _ _ h
  · refine x_icmp_ge (tgt := 228) (pc' := 224) dX12_goes_221 (by decide) rfl (fun hn => absurd hn g1) (fun _ => ?_)
    refine x_iconst (pc' := 225) (x := 4) dX12_goes_224 (by decide) rfl ?_
    refine x_goto (tgt := 230) dX12_goes_225 (by decide) ?_
    exact r_X12_goes_230 _ _ _ _ _ _ _ _ _ _ _ _ _ _ _ _ _ _ _ h
def F_X12_goes_192 (v1 : Int32) (v4 : Int32) (v5 : Int32) (v6 : Int32) (v8 : Int32) (v9 : Int64) (v11 : Int32) (v12 : Int64) (s0 : Int32) (hi : Nat → Nat → Int32) (hl : Nat → Nat → Int64) (r : xRr) : Option (Int32 × xSt) := if s0 = 0 then if v8 ≤ v11 then F_X12_goes_216 v1 v4 v5 v6 v9 v12 v11 hi hl r else F_X12_goes_216 v1 v4 v5 v6 v9 v12 v8 hi hl r else some (s0, hi, hl, r)
set_option maxRecDepth 20000 in
set_option maxHeartbeats 2000000 in
theorem r_X12_goes_192 (v1 : Int32) (v4 : Int32) (v5 : Int32) (v6 : Int32) (v8 : Int32) (v9 : Int64) (v11 : Int32) (v12 : Int64) (s0 : Int32) (d2 : Option Value) (d3 : Option Value) (d7 : Option Value) (d10 : Option Value) (d13 : Option Value) (d14 : Option Value) (hi : Nat → Nat → Int32) (hl : Nat → Nat → Int64) (r : xRr) (o : Int32 × xSt) (h : F_X12_goes_192 v1 v4 v5 v6 v8 v9 v11 v12 s0 hi hl r = some o) : xR (RX12, cX12_goes, 15, false, 1) (6, 0, 0) z 0 0 192 [some (.ref 90), some (.int v1), d2, d3, some (.int v4), some (.int v5), some (.int v6), d7, some (.int v8), some (.long v9), d10, some (.int v11), some (.long v12), d13, d14] [.int s0] (xhp hi hl r) (xoI o) := by
  refine x_istore (pc' := 194) (L' := [some (.ref 90), some (.int v1), d2, d3, some (.int v4), some (.int v5), some (.int v6), some (.int s0), some (.int v8), some (.long v9), d10, some (.int v11), some (.long v12), d13, d14]) dX12_goes_192 (Nat.le_of_ble_eq_true rfl) rfl rfl ?_
  refine x_iload (pc' := 196) dX12_goes_194 rfl rfl ?_
  refine xg_ite h (fun g1 h => ?_) (fun g1 h => ?_)
  · refine x_if_eq (tgt := 202) (pc' := 199) dX12_goes_196 (by decide) rfl (fun _ => ?_) (fun hn => absurd g1 hn)
    refine x_iload (pc' := 204) dX12_goes_202 rfl rfl ?_
    refine x_iload (pc' := 206) dX12_goes_204 rfl rfl ?_
    refine xg_ite h (fun g2 h => ?_) (fun g2 h => ?_)
    · refine x_icmp_le (tgt := 214) (pc' := 209) dX12_goes_206 (by decide) rfl (fun _ => ?_) (fun hn => absurd g2 hn)
      refine x_iload (pc' := 216) dX12_goes_214 rfl rfl ?_
      exact r_X12_goes_216 _ _ _ _ _ _ _ _ _ _ _ _ _ _ _ _ _ _ _ h
    · refine x_icmp_le (tgt := 214) (pc' := 209) dX12_goes_206 (by decide) rfl (fun hn => absurd hn g2) (fun _ => ?_)
      refine x_iload (pc' := 211) dX12_goes_209 rfl rfl ?_
      refine x_goto (tgt := 216) dX12_goes_211 (by decide) ?_
      exact r_X12_goes_216 _ _ _ _ _ _ _ _ _ _ _ _ _ _ _ _ _ _ _ h
  · refine x_if_eq (tgt := 202) (pc' := 199) dX12_goes_196 (by decide) rfl (fun hn => absurd hn g1) (fun _ => ?_)
    refine x_iload (pc' := 201) dX12_goes_199 rfl rfl ?_
    obtain rfl := Option.some.inj h
    exact x_iret dX12_goes_201 rfl rfl (Nat.le_of_ble_eq_true rfl) rfl
def F_X12_goes_126 (v1 : Int32) (v2 : Int32) (v3 : Int32) (v4 : Int32) (v5 : Int32) (v6 : Int32) (v8 : Int32) (v9 : Int64) (hi : Nat → Nat → Int32) (hl : Nat → Nat → Int64) (r : xRr) : Option (Int32 × xSt) := if v1 = (4 : Int32) then xbI (F_X12_swaps v2 v3 v4 v5 v8 v9 v6 hi hl r) (fun w3 hi3 hl3 r3 => some (w3, hi3, hl3, r3)) else xbI (F_X12_summed (xu hi 90 31 v8) hl r) (fun w5 hi5 hl5 r5 => if w5 = 0 then xbI (F_X12_summed (xu hi5 90 31 (hi 90 31)) hl5 r5) (fun w8 hi8 hl8 r8 => F_X12_goes_192 v1 v4 v5 v6 v8 v9 (hi 90 31) (hl 90 32) w8 hi8 hl8 r8) else F_X12_goes_192 v1 v4 v5 v6 v8 v9 (hi 90 31) (hl 90 32) w5 (xu hi5 90 31 (hi 90 31)) hl5 r5)
set_option maxRecDepth 20000 in
set_option maxHeartbeats 2000000 in
theorem r_X12_goes_126 (v1 : Int32) (v2 : Int32) (v3 : Int32) (v4 : Int32) (v5 : Int32) (v6 : Int32) (v8 : Int32) (v9 : Int64) (d7 : Option Value) (d10 : Option Value) (d11 : Option Value) (d12 : Option Value) (d13 : Option Value) (d14 : Option Value) (hi : Nat → Nat → Int32) (hl : Nat → Nat → Int64) (r : xRr) (o : Int32 × xSt) (h : F_X12_goes_126 v1 v2 v3 v4 v5 v6 v8 v9 hi hl r = some o) : xR (RX12, cX12_goes, 15, false, 1) (6, 0, 0) z 0 0 126 [some (.ref 90), some (.int v1), some (.int v2), some (.int v3), some (.int v4), some (.int v5), some (.int v6), d7, some (.int v8), some (.long v9), d10, d11, d12, d13, d14] [] (xhp hi hl r) (xoI o) := by
  refine x_aload_n (pc' := 127) dX12_goes_126 rfl rfl ?_
  refine x_geti (pc' := 130) dX12_goes_127 f_X12_182 (by decide) rfl rfl rfl ?_
  refine x_istore (pc' := 132) (L' := [some (.ref 90), some (.int v1), some (.int v2), some (.int v3), some (.int v4), some (.int v5), some (.int v6), d7, some (.int v8), some (.long v9), (xcl d10), some (.int (hi 90 31)), d12, d13, d14]) dX12_goes_130 (Nat.le_of_ble_eq_true rfl) rfl rfl ?_
  refine x_aload_n (pc' := 133) dX12_goes_132 rfl rfl ?_
  refine x_getl (pc' := 136) dX12_goes_133 f_X12_185 (by decide) rfl rfl rfl ?_
  refine x_lstore (pc' := 138) (L' := [some (.ref 90), some (.int v1), some (.int v2), some (.int v3), some (.int v4), some (.int v5), some (.int v6), d7, some (.int v8), some (.long v9), (xcl d10), some (.int (hi 90 31)), some (.long (hl 90 32)), none, d14]) dX12_goes_136 (Nat.le_of_ble_eq_true rfl) rfl rfl ?_
  refine x_iload_n (pc' := 139) dX12_goes_138 rfl rfl ?_
  refine x_iconst (pc' := 140) (x := 4) dX12_goes_139 (by decide) rfl ?_
  refine xg_ite h (fun g1 h => ?_) (fun g1 h => ?_)
  · refine x_icmp_ne (tgt := 160) (pc' := 143) dX12_goes_140 (by decide) rfl (fun hn => absurd g1 hn) (fun _ => ?_)
    refine x_aload_n (pc' := 144) dX12_goes_143 rfl rfl ?_
    refine x_iload_n (pc' := 145) dX12_goes_144 rfl rfl ?_
    refine x_iload_n (pc' := 146) dX12_goes_145 rfl rfl ?_
    refine x_iload (pc' := 148) dX12_goes_146 rfl rfl ?_
    refine x_iload (pc' := 150) dX12_goes_148 rfl rfl ?_
    refine x_iload (pc' := 152) dX12_goes_150 rfl rfl ?_
    refine x_lload (pc' := 154) dX12_goes_152 rfl rfl ?_
    refine x_iload (pc' := 156) dX12_goes_154 rfl rfl ?_
    refine xg_bI h (fun w3 hi3 hl3 r3 e2 h => ?_)
    refine x_callV (pc' := 159) (S := []) (As := [.int v2, .int v3, .int v4, .int v5, .int v8, .long v9, .int v6]) (b' := (5, 0, 0)) dX12_goes_156 l_X12_263 m_X12_swaps rfl rfl (show 90 < 122 by decide) rfl (Nat.le_of_ble_eq_true rfl) (Nat.le_of_ble_eq_true rfl) (Nat.le_of_ble_eq_true rfl) (Nat.le_of_ble_eq_true rfl) (r_X12_swaps _ _ _ _ _ _ _ _ _ _ _ e2) rfl ?_
    obtain rfl := Option.some.inj h
    exact x_iret dX12_goes_159 rfl rfl (Nat.le_of_ble_eq_true rfl) rfl
  · refine x_icmp_ne (tgt := 160) (pc' := 143) dX12_goes_140 (by decide) rfl (fun _ => ?_) (fun hn => absurd hn g1)
    refine x_aload_n (pc' := 161) dX12_goes_160 rfl rfl ?_
    refine x_iload (pc' := 163) dX12_goes_161 rfl rfl ?_
    refine x_puti (pc' := 166) dX12_goes_163 f_X12_182 (Or.inl rfl) (by decide) rfl rfl rfl ?_
    refine x_aload_n (pc' := 167) dX12_goes_166 rfl rfl ?_
    refine xg_bI h (fun w5 hi5 hl5 r5 e4 h => ?_)
    refine x_callV (pc' := 170) (S := []) (As := []) (b' := (0, 0, 0)) dX12_goes_167 l_X12_267 m_X12_summed rfl rfl (show 90 < 122 by decide) rfl (Nat.le_of_ble_eq_true rfl) (Nat.le_of_ble_eq_true rfl) (Nat.le_of_ble_eq_true rfl) (Nat.le_of_ble_eq_true rfl) (r_X12_summed _ _ _ _ e4) rfl ?_
    refine x_istore (pc' := 172) (L' := [some (.ref 90), some (.int v1), some (.int v2), some (.int v3), some (.int v4), some (.int v5), some (.int v6), some (.int w5), some (.int v8), some (.long v9), (xcl d10), some (.int (hi 90 31)), some (.long (hl 90 32)), none, d14]) dX12_goes_170 (Nat.le_of_ble_eq_true rfl) rfl rfl ?_
    refine x_aload_n (pc' := 173) dX12_goes_172 rfl rfl ?_
    refine x_iload (pc' := 175) dX12_goes_173 rfl rfl ?_
    refine x_puti (pc' := 178) dX12_goes_175 f_X12_182 (Or.inl rfl) (by decide) rfl rfl rfl ?_
    refine x_iload (pc' := 180) dX12_goes_178 rfl rfl ?_
    refine xg_ite h (fun g6 h => ?_) (fun g6 h => ?_)
    · refine x_if_ne (tgt := 190) (pc' := 183) dX12_goes_180 (by decide) rfl (fun hn => absurd g6 hn) (fun _ => ?_)
      refine x_aload_n (pc' := 184) dX12_goes_183 rfl rfl ?_
      refine xg_bI h (fun w8 hi8 hl8 r8 e7 h => ?_)
      refine x_callV (pc' := 187) (S := []) (As := []) (b' := (0, 0, 0)) dX12_goes_184 l_X12_267 m_X12_summed rfl rfl (show 90 < 122 by decide) rfl (Nat.le_of_ble_eq_true rfl) (Nat.le_of_ble_eq_true rfl) (Nat.le_of_ble_eq_true rfl) (Nat.le_of_ble_eq_true rfl) (r_X12_summed _ _ _ _ e7) rfl ?_
      refine x_goto (tgt := 192) dX12_goes_187 (by decide) ?_
      exact r_X12_goes_192 _ _ _ _ _ _ _ _ _ _ _ _ _ _ _ _ _ _ _ h
    · refine x_if_ne (tgt := 190) (pc' := 183) dX12_goes_180 (by decide) rfl (fun _ => ?_) (fun hn => absurd hn g6)
      refine x_iload (pc' := 192) dX12_goes_190 rfl rfl ?_
      exact r_X12_goes_192 _ _ _ _ _ _ _ _ _ _ _ _ _ _ _ _ _ _ _ h
def F_X12_goes_45 (v1 : Int32) (v2 : Int32) (v3 : Int32) (v4 : Int32) (v5 : Int32) (v6 : Int32) (hi : Nat → Nat → Int32) (hl : Nat → Nat → Int64) (r : xRr) : Option (Int32 × xSt) := if v1 = 0 then if xok v2 8 = true then xbI (F_X12_ends v4 v5 (hi 99 (Int32.toNatClampNeg v2)) v6 hi hl r) (fun w4 hi4 hl4 r4 => some (w4, hi4, hl4, r4)) else none else xbI (F_X12_read v4 v5 hi hl r) (fun w6 hi6 hl6 r6 => if w6 = 0 then if v6 = 0 then F_X12_goes_126 v1 v2 v3 v4 v5 v6 (hi 90 31) (hl 90 32) hi6 hl6 r6 else xbI (F_X12_bankOf v4 hi6 hl6 r6) (fun w10 hi10 hl10 r10 => if xok w10 6 = true then if (hi10 91 (Int32.toNatClampNeg w10)) < (8 : Int32) then F_X12_goes_126 v1 v2 v3 v4 v5 v6 (hi 90 31) (hl 90 32) hi10 hl10 r10 else F_X12_goes_114 w6 hi10 hl10 r10 else none) else F_X12_goes_114 w6 hi6 hl6 r6)
set_option maxRecDepth 20000 in
set_option maxHeartbeats 2000000 in
theorem r_X12_goes_45 (v1 : Int32) (v2 : Int32) (v3 : Int32) (v4 : Int32) (v5 : Int32) (v6 : Int32) (d7 : Option Value) (d8 : Option Value) (d9 : Option Value) (d10 : Option Value) (d11 : Option Value) (d12 : Option Value) (d13 : Option Value) (d14 : Option Value) (hi : Nat → Nat → Int32) (hl : Nat → Nat → Int64) (r : xRr) (o : Int32 × xSt) (h : F_X12_goes_45 v1 v2 v3 v4 v5 v6 hi hl r = some o) : xR (RX12, cX12_goes, 15, false, 1) (6, 0, 0) z 0 0 45 [some (.ref 90), some (.int v1), some (.int v2), some (.int v3), some (.int v4), some (.int v5), some (.int v6), d7, d8, d9, d10, d11, d12, d13, d14] [] (xhp hi hl r) (xoI o) := by
  refine x_aload_n (pc' := 46) dX12_goes_45 rfl rfl ?_
  refine x_geti (pc' := 49) dX12_goes_46 f_X12_182 (by decide) rfl rfl rfl ?_
  refine x_istore (pc' := 51) (L' := [some (.ref 90), some (.int v1), some (.int v2), some (.int v3), some (.int v4), some (.int v5), some (.int v6), (xcl d7), some (.int (hi 90 31)), d9, d10, d11, d12, d13, d14]) dX12_goes_49 (Nat.le_of_ble_eq_true rfl) rfl rfl ?_
  refine x_aload_n (pc' := 52) dX12_goes_51 rfl rfl ?_
  refine x_getl (pc' := 55) dX12_goes_52 f_X12_185 (by decide) rfl rfl rfl ?_
  refine x_lstore (pc' := 57) (L' := [some (.ref 90), some (.int v1), some (.int v2), some (.int v3), some (.int v4), some (.int v5), some (.int v6), (xcl d7), some (.int (hi 90 31)), some (.long (hl 90 32)), none, d11, d12, d13, d14]) dX12_goes_55 (Nat.le_of_ble_eq_true rfl) rfl rfl ?_
  refine x_iload_n (pc' := 58) dX12_goes_57 rfl rfl ?_
  refine xg_ite h (fun g1 h => ?_) (fun g1 h => ?_)
  · refine x_if_ne (tgt := 78) (pc' := 61) dX12_goes_58 (by decide) rfl (fun hn => absurd g1 hn) (fun _ => ?_)
    refine x_aload_n (pc' := 62) dX12_goes_61 rfl rfl ?_
    refine x_iload (pc' := 64) dX12_goes_62 rfl rfl ?_
    refine x_iload (pc' := 66) dX12_goes_64 rfl rfl ?_
    refine x_aload_n (pc' := 67) dX12_goes_66 rfl rfl ?_
    refine x_getr (pc' := 70) (t := 99) dX12_goes_67 f_X12_35 (by decide) rfl rfl rfl rfl ?_
    refine x_iload_n (pc' := 71) dX12_goes_70 rfl rfl ?_
    refine xg_if h (fun g2 h => ?_)
    refine x_iald (pc' := 72) dX12_goes_71 (by decide) rfl (xok_in g2) rfl ?_
    refine x_iload (pc' := 74) dX12_goes_72 rfl rfl ?_
    refine xg_bI h (fun w4 hi4 hl4 r4 e3 h => ?_)
    refine x_callV (pc' := 77) (S := []) (As := [.int v4, .int v5, .int (hi 99 (Int32.toNatClampNeg v2)), .int v6]) (b' := (5, 0, 0)) dX12_goes_74 l_X12_259 m_X12_ends rfl rfl (show 90 < 122 by decide) rfl (Nat.le_of_ble_eq_true rfl) (Nat.le_of_ble_eq_true rfl) (Nat.le_of_ble_eq_true rfl) (Nat.le_of_ble_eq_true rfl) (r_X12_ends _ _ _ _ _ _ _ _ e3) rfl ?_
    obtain rfl := Option.some.inj h
    exact x_iret dX12_goes_77 rfl rfl (Nat.le_of_ble_eq_true rfl) rfl
  · refine x_if_ne (tgt := 78) (pc' := 61) dX12_goes_58 (by decide) rfl (fun _ => ?_) (fun hn => absurd hn g1)
    refine x_aload_n (pc' := 79) dX12_goes_78 rfl rfl ?_
    refine x_iload (pc' := 81) dX12_goes_79 rfl rfl ?_
    refine x_iload (pc' := 83) dX12_goes_81 rfl rfl ?_
    refine xg_bI h (fun w6 hi6 hl6 r6 e5 h => ?_)
    refine x_callV (pc' := 86) (S := []) (As := [.int v4, .int v5]) (b' := (4, 0, 0)) dX12_goes_83 l_X12_227 m_X12_read rfl rfl (show 90 < 122 by decide) rfl (Nat.le_of_ble_eq_true rfl) (Nat.le_of_ble_eq_true rfl) (Nat.le_of_ble_eq_true rfl) (Nat.le_of_ble_eq_true rfl) (r_X12_read _ _ _ _ _ _ e5) rfl ?_
    refine x_istore (pc' := 88) (L' := [some (.ref 90), some (.int v1), some (.int v2), some (.int v3), some (.int v4), some (.int v5), some (.int v6), some (.int w6), some (.int (hi 90 31)), some (.long (hl 90 32)), none, d11, d12, d13, d14]) dX12_goes_86 (Nat.le_of_ble_eq_true rfl) rfl rfl ?_
    refine x_iload (pc' := 90) dX12_goes_88 rfl rfl ?_
    refine xg_ite h (fun g7 h => ?_) (fun g7 h => ?_)
    · refine x_if_ne (tgt := 114) (pc' := 93) dX12_goes_90 (by decide) rfl (fun hn => absurd g7 hn) (fun _ => ?_)
      refine x_iload (pc' := 95) dX12_goes_93 rfl rfl ?_
      refine xg_ite h (fun g8 h => ?_) (fun g8 h => ?_)
      · refine x_if_eq (tgt := 126) (pc' := 98) dX12_goes_95 (by decide) rfl (fun _ => ?_) (fun hn => absurd g8 hn)
        exact r_X12_goes_126 _ _ _ _ _ _ _ _ _ _ _ _ _ _ _ _ _ _ h
      · refine x_if_eq (tgt := 126) (pc' := 98) dX12_goes_95 (by decide) rfl (fun hn => absurd hn g8) (fun _ => ?_)
        refine x_aload_n (pc' := 99) dX12_goes_98 rfl rfl ?_
        refine x_getr (pc' := 102) (t := 91) dX12_goes_99 f_X12_7 (by decide) rfl rfl rfl rfl ?_
        refine x_aload_n (pc' := 103) dX12_goes_102 rfl rfl ?_
        refine x_iload (pc' := 105) dX12_goes_103 rfl rfl ?_
        refine xg_bI h (fun w10 hi10 hl10 r10 e9 h => ?_)
        refine x_callV (pc' := 108) (S := [.ref 91]) (As := [.int v4]) (b' := (0, 0, 0)) dX12_goes_105 l_X12_192 m_X12_bankOf rfl rfl (show 90 < 122 by decide) rfl (Nat.le_of_ble_eq_true rfl) (Nat.le_of_ble_eq_true rfl) (Nat.le_of_ble_eq_true rfl) (Nat.le_of_ble_eq_true rfl) (r_X12_bankOf _ _ _ _ _ e9) rfl ?_
        refine xg_if h (fun g11 h => ?_)
        refine x_iald (pc' := 109) dX12_goes_108 (by decide) rfl (xok_in g11) rfl ?_
        refine x_bipush (pc' := 111) (x := 8) dX12_goes_109 (by decide) rfl ?_
        refine xg_ite h (fun g12 h => ?_) (fun g12 h => ?_)
        · refine x_icmp_lt (tgt := 126) (pc' := 114) dX12_goes_111 (by decide) rfl (fun _ => ?_) (fun hn => absurd g12 hn)
          exact r_X12_goes_126 _ _ _ _ _ _ _ _ _ _ _ _ _ _ _ _ _ _ h
        · refine x_icmp_lt (tgt := 126) (pc' := 114) dX12_goes_111 (by decide) rfl (fun hn => absurd hn g12) (fun _ => ?_)
          exact r_X12_goes_114 _ _ _ _ _ _ _ _ _ _ _ _ _ _ _ _ _ _ h
    · refine x_if_ne (tgt := 114) (pc' := 93) dX12_goes_90 (by decide) rfl (fun _ => ?_) (fun hn => absurd hn g7)
      exact r_X12_goes_114 _ _ _ _ _ _ _ _ _ _ _ _ _ _ _ _ _ _ h
def F_X12_goes (v1 : Int32) (v2 : Int32) (v3 : Int32) (v4 : Int32) (v5 : Int32) (v6 : Int32) (hi : Nat → Nat → Int32) (hl : Nat → Nat → Int64) (r : xRr) : Option (Int32 × xSt) := xbI (F_X12_read v2 v3 hi hl r) (fun w2 hi2 hl2 r2 => if w2 = 0 then if v6 = 0 then F_X12_goes_45 v1 v2 v3 v4 v5 v6 hi2 hl2 r2 else xbI (F_X12_bankOf v2 hi2 hl2 r2) (fun w6 hi6 hl6 r6 => if xok w6 6 = true then if (hi6 91 (Int32.toNatClampNeg w6)) < (8 : Int32) then F_X12_goes_45 v1 v2 v3 v4 v5 v6 hi6 hl6 r6 else F_X12_goes_33 w2 hi6 hl6 r6 else none) else F_X12_goes_33 w2 hi2 hl2 r2)
set_option maxRecDepth 20000 in
set_option maxHeartbeats 2000000 in
theorem r_X12_goes (v1 : Int32) (v2 : Int32) (v3 : Int32) (v4 : Int32) (v5 : Int32) (v6 : Int32) (hi : Nat → Nat → Int32) (hl : Nat → Nat → Int64) (r : xRr) (o : Int32 × xSt) (h : F_X12_goes v1 v2 v3 v4 v5 v6 hi hl r = some o) : xM yX12_goes cX12_goes 15 1 (6, 0, 0) z [.ref 90, .int v1, .int v2, .int v3, .int v4, .int v5, .int v6] (xhp hi hl r) (xoI o) := by
  refine x_meth2 (C := RX12) (ini := false) (L := [some (.ref 90), some (.int v1), some (.int v2), some (.int v3), some (.int v4), some (.int v5), some (.int v6), none, none, none, none, none, none, none, none]) rfl (by decide) (fun h9 => by cases h9) (by decide) (Nat.le_of_ble_eq_true rfl) rfl ?_
  refine x_aload_n (pc' := 1) dX12_goes_0 rfl rfl ?_
  refine x_iload_n (pc' := 2) dX12_goes_1 rfl rfl ?_
  refine x_iload_n (pc' := 3) dX12_goes_2 rfl rfl ?_
  refine xg_bI h (fun w2 hi2 hl2 r2 e1 h => ?_)
  refine x_callV (pc' := 6) (S := []) (As := [.int v2, .int v3]) (b' := (4, 0, 0)) dX12_goes_3 l_X12_227 m_X12_read rfl rfl (show 90 < 122 by decide) rfl (Nat.le_of_ble_eq_true rfl) (Nat.le_of_ble_eq_true rfl) (Nat.le_of_ble_eq_true rfl) (Nat.le_of_ble_eq_true rfl) (r_X12_read _ _ _ _ _ _ e1) rfl ?_
  refine x_istore (pc' := 8) (L' := [some (.ref 90), some (.int v1), some (.int v2), some (.int v3), some (.int v4), some (.int v5), some (.int v6), some (.int w2), none, none, none, none, none, none, none]) dX12_goes_6 (Nat.le_of_ble_eq_true rfl) rfl rfl ?_
  refine x_iload (pc' := 10) dX12_goes_8 rfl rfl ?_
  refine xg_ite h (fun g3 h => ?_) (fun g3 h => ?_)
  · refine x_if_ne (tgt := 33) (pc' := 13) dX12_goes_10 (by decide) rfl (fun hn => absurd g3 hn) (fun _ => ?_)
    refine x_iload (pc' := 15) dX12_goes_13 rfl rfl ?_
    refine xg_ite h (fun g4 h => ?_) (fun g4 h => ?_)
    · refine x_if_eq (tgt := 45) (pc' := 18) dX12_goes_15 (by decide) rfl (fun _ => ?_) (fun hn => absurd g4 hn)
      exact r_X12_goes_45 _ _ _ _ _ _ _ _ _ _ _ _ _ _ _ _ _ _ h
    · refine x_if_eq (tgt := 45) (pc' := 18) dX12_goes_15 (by decide) rfl (fun hn => absurd hn g4) (fun _ => ?_)
      refine x_aload_n (pc' := 19) dX12_goes_18 rfl rfl ?_
      refine x_getr (pc' := 22) (t := 91) dX12_goes_19 f_X12_7 (by decide) rfl rfl rfl rfl ?_
      refine x_aload_n (pc' := 23) dX12_goes_22 rfl rfl ?_
      refine x_iload_n (pc' := 24) dX12_goes_23 rfl rfl ?_
      refine xg_bI h (fun w6 hi6 hl6 r6 e5 h => ?_)
      refine x_callV (pc' := 27) (S := [.ref 91]) (As := [.int v2]) (b' := (0, 0, 0)) dX12_goes_24 l_X12_192 m_X12_bankOf rfl rfl (show 90 < 122 by decide) rfl (Nat.le_of_ble_eq_true rfl) (Nat.le_of_ble_eq_true rfl) (Nat.le_of_ble_eq_true rfl) (Nat.le_of_ble_eq_true rfl) (r_X12_bankOf _ _ _ _ _ e5) rfl ?_
      refine xg_if h (fun g7 h => ?_)
      refine x_iald (pc' := 28) dX12_goes_27 (by decide) rfl (xok_in g7) rfl ?_
      refine x_bipush (pc' := 30) (x := 8) dX12_goes_28 (by decide) rfl ?_
      refine xg_ite h (fun g8 h => ?_) (fun g8 h => ?_)
      · refine x_icmp_lt (tgt := 45) (pc' := 33) dX12_goes_30 (by decide) rfl (fun _ => ?_) (fun hn => absurd g8 hn)
        exact r_X12_goes_45 _ _ _ _ _ _ _ _ _ _ _ _ _ _ _ _ _ _ h
      · refine x_icmp_lt (tgt := 45) (pc' := 33) dX12_goes_30 (by decide) rfl (fun hn => absurd hn g8) (fun _ => ?_)
        exact r_X12_goes_33 _ _ _ _ _ _ _ _ _ _ _ _ _ _ _ _ _ _ h
  · refine x_if_ne (tgt := 33) (pc' := 13) dX12_goes_10 (by decide) rfl (fun _ => ?_) (fun hn => absurd hn g3)
    exact r_X12_goes_33 _ _ _ _ _ _ _ _ _ _ _ _ _ _ _ _ _ _ h
def F_X12_does (v1 : Int32) (v2 : Int32) (v3 : Int32) (v4 : Int32) (v5 : Int32) (hi : Nat → Nat → Int32) (hl : Nat → Nat → Int64) (r : xRr) : Option (Int32 × xSt) := xbP (F_X12_in (Int32.toInt64 v1) (0 : Int64) (4 : Int64)) (fun w2 => if w2 = 0 then some (((-1) : Int32), (xu hi 90 0 (0 : Int32)), hl, r) else xbI (F_X12_isView v2 (xu hi 90 0 (0 : Int32)) hl r) (fun w5 hi5 hl5 r5 => if w5 = 0 then some (((-1) : Int32), hi5, hl5, r5) else xbI (F_X12_isView v4 hi5 hl5 r5) (fun w8 hi8 hl8 r8 => if w8 = 0 then some (((-1) : Int32), hi8, hl8, r8) else xbP (F_X12_in (Int32.toInt64 v3) (0 : Int64) (11 : Int64)) (fun w11 => if w11 = 0 then some (((-1) : Int32), hi8, hl8, r8) else xbP (F_X12_in (Int32.toInt64 v5) (0 : Int64) (11 : Int64)) (fun w14 => if w14 = 0 then some (((-1) : Int32), hi8, hl8, r8) else xbV (F_X12_copy 113 114 (0 : Int32) hi8 hl8 r8) (fun hi17 hl17 r17 => xbI (F_X12_goes v1 v2 v3 v4 v5 (0 : Int32) hi17 hl17 r17) (fun w19 hi19 hl19 r19 => if w19 = 0 then xbV (F_X12_know hi19 hl19 r19) (fun hi22 hl22 r22 => some (w19, hi22, hl22, r22)) else some (w19, hi19, hl19, r19))))))))
set_option maxRecDepth 20000 in
set_option maxHeartbeats 2000000 in
theorem r_X12_does (v1 : Int32) (v2 : Int32) (v3 : Int32) (v4 : Int32) (v5 : Int32) (hi : Nat → Nat → Int32) (hl : Nat → Nat → Int64) (r : xRr) (o : Int32 × xSt) (h : F_X12_does v1 v2 v3 v4 v5 hi hl r = some o) : xM yX12_does cX12_does 7 1 (7, 0, 0) z [.ref 90, .int v1, .int v2, .int v3, .int v4, .int v5] (xhp hi hl r) (xoI o) := by
  refine x_meth2 (C := RX12) (ini := false) (L := [some (.ref 90), some (.int v1), some (.int v2), some (.int v3), some (.int v4), some (.int v5), none]) rfl (by decide) (fun h9 => by cases h9) (by decide) (Nat.le_of_ble_eq_true rfl) rfl ?_
  refine x_aload_n (pc' := 1) dX12_does_0 rfl rfl ?_
  refine x_iconst (pc' := 2) (x := 0) dX12_does_1 (by decide) rfl ?_
  refine x_puti (pc' := 5) dX12_does_2 f_X12_109 (Or.inl rfl) (by decide) rfl rfl rfl ?_
  refine x_iload_n (pc' := 6) dX12_does_5 rfl rfl ?_
  refine x_i2l (pc' := 7) dX12_does_6 rfl ?_
  refine x_lconst (pc' := 8) (x := 0) dX12_does_7 (by decide) rfl ?_
  refine x_ldc2 (pc' := 11) dX12_does_8 k_X12_275 rfl ?_
  refine xg_bP h (fun w2 e1 h => ?_)
  refine x_callS (pc' := 14) (S := []) (As := [.long (Int32.toInt64 v1), .long (0 : Int64), .long (4 : Int64)]) (b' := (0, 0, 0)) dX12_does_11 l_X12_118 m_X12_in rfl rfl (Nat.le_of_ble_eq_true rfl) (Nat.le_of_ble_eq_true rfl) (Nat.le_of_ble_eq_true rfl) (Nat.le_of_ble_eq_true rfl) (r_X12_in _ _ _ _ _ e1) rfl ?_
  refine xg_ite h (fun g3 h => ?_) (fun g3 h => ?_)
  · refine x_if_eq (tgt := 59) (pc' := 17) dX12_does_14 (by decide) rfl (fun _ => ?_) (fun hn => absurd g3 hn)
    refine x_iconst (pc' := 60) (x := (-1)) dX12_does_59 (by decide) rfl ?_
    obtain rfl := Option.some.inj h
    exact x_iret dX12_does_60 rfl rfl (Nat.le_of_ble_eq_true rfl) rfl
  · refine x_if_eq (tgt := 59) (pc' := 17) dX12_does_14 (by decide) rfl (fun hn => absurd hn g3) (fun _ => ?_)
    refine x_aload_n (pc' := 18) dX12_does_17 rfl rfl ?_
    refine x_iload_n (pc' := 19) dX12_does_18 rfl rfl ?_
    refine xg_bI h (fun w5 hi5 hl5 r5 e4 h => ?_)
    refine x_callV (pc' := 22) (S := []) (As := [.int v2]) (b' := (1, 0, 0)) dX12_does_19 l_X12_152 m_X12_isView rfl rfl (show 90 < 122 by decide) rfl (Nat.le_of_ble_eq_true rfl) (Nat.le_of_ble_eq_true rfl) (Nat.le_of_ble_eq_true rfl) (Nat.le_of_ble_eq_true rfl) (r_X12_isView _ _ _ _ _ e4) rfl ?_
    refine xg_ite h (fun g6 h => ?_) (fun g6 h => ?_)
    · refine x_if_eq (tgt := 59) (pc' := 25) dX12_does_22 (by decide) rfl (fun _ => ?_) (fun hn => absurd g6 hn)
      refine x_iconst (pc' := 60) (x := (-1)) dX12_does_59 (by decide) rfl ?_
      obtain rfl := Option.some.inj h
      exact x_iret dX12_does_60 rfl rfl (Nat.le_of_ble_eq_true rfl) rfl
    · refine x_if_eq (tgt := 59) (pc' := 25) dX12_does_22 (by decide) rfl (fun hn => absurd hn g6) (fun _ => ?_)
      refine x_aload_n (pc' := 26) dX12_does_25 rfl rfl ?_
      refine x_iload (pc' := 28) dX12_does_26 rfl rfl ?_
      refine xg_bI h (fun w8 hi8 hl8 r8 e7 h => ?_)
      refine x_callV (pc' := 31) (S := []) (As := [.int v4]) (b' := (1, 0, 0)) dX12_does_28 l_X12_152 m_X12_isView rfl rfl (show 90 < 122 by decide) rfl (Nat.le_of_ble_eq_true rfl) (Nat.le_of_ble_eq_true rfl) (Nat.le_of_ble_eq_true rfl) (Nat.le_of_ble_eq_true rfl) (r_X12_isView _ _ _ _ _ e7) rfl ?_
      refine xg_ite h (fun g9 h => ?_) (fun g9 h => ?_)
      · refine x_if_eq (tgt := 59) (pc' := 34) dX12_does_31 (by decide) rfl (fun _ => ?_) (fun hn => absurd g9 hn)
        refine x_iconst (pc' := 60) (x := (-1)) dX12_does_59 (by decide) rfl ?_
        obtain rfl := Option.some.inj h
        exact x_iret dX12_does_60 rfl rfl (Nat.le_of_ble_eq_true rfl) rfl
      · refine x_if_eq (tgt := 59) (pc' := 34) dX12_does_31 (by decide) rfl (fun hn => absurd hn g9) (fun _ => ?_)
        refine x_iload_n (pc' := 35) dX12_does_34 rfl rfl ?_
        refine x_i2l (pc' := 36) dX12_does_35 rfl ?_
        refine x_lconst (pc' := 37) (x := 0) dX12_does_36 (by decide) rfl ?_
        refine x_ldc2 (pc' := 40) dX12_does_37 k_X12_225 rfl ?_
        refine xg_bP h (fun w11 e10 h => ?_)
        refine x_callS (pc' := 43) (S := []) (As := [.long (Int32.toInt64 v3), .long (0 : Int64), .long (11 : Int64)]) (b' := (0, 0, 0)) dX12_does_40 l_X12_118 m_X12_in rfl rfl (Nat.le_of_ble_eq_true rfl) (Nat.le_of_ble_eq_true rfl) (Nat.le_of_ble_eq_true rfl) (Nat.le_of_ble_eq_true rfl) (r_X12_in _ _ _ _ _ e10) rfl ?_
        refine xg_ite h (fun g12 h => ?_) (fun g12 h => ?_)
        · refine x_if_eq (tgt := 59) (pc' := 46) dX12_does_43 (by decide) rfl (fun _ => ?_) (fun hn => absurd g12 hn)
          refine x_iconst (pc' := 60) (x := (-1)) dX12_does_59 (by decide) rfl ?_
          obtain rfl := Option.some.inj h
          exact x_iret dX12_does_60 rfl rfl (Nat.le_of_ble_eq_true rfl) rfl
        · refine x_if_eq (tgt := 59) (pc' := 46) dX12_does_43 (by decide) rfl (fun hn => absurd hn g12) (fun _ => ?_)
          refine x_iload (pc' := 48) dX12_does_46 rfl rfl ?_
          refine x_i2l (pc' := 49) dX12_does_48 rfl ?_
          refine x_lconst (pc' := 50) (x := 0) dX12_does_49 (by decide) rfl ?_
          refine x_ldc2 (pc' := 53) dX12_does_50 k_X12_225 rfl ?_
          refine xg_bP h (fun w14 e13 h => ?_)
          refine x_callS (pc' := 56) (S := []) (As := [.long (Int32.toInt64 v5), .long (0 : Int64), .long (11 : Int64)]) (b' := (0, 0, 0)) dX12_does_53 l_X12_118 m_X12_in rfl rfl (Nat.le_of_ble_eq_true rfl) (Nat.le_of_ble_eq_true rfl) (Nat.le_of_ble_eq_true rfl) (Nat.le_of_ble_eq_true rfl) (r_X12_in _ _ _ _ _ e13) rfl ?_
          refine xg_ite h (fun g15 h => ?_) (fun g15 h => ?_)
          · refine x_if_ne (tgt := 61) (pc' := 59) dX12_does_56 (by decide) rfl (fun hn => absurd g15 hn) (fun _ => ?_)
            refine x_iconst (pc' := 60) (x := (-1)) dX12_does_59 (by decide) rfl ?_
            obtain rfl := Option.some.inj h
            exact x_iret dX12_does_60 rfl rfl (Nat.le_of_ble_eq_true rfl) rfl
          · refine x_if_ne (tgt := 61) (pc' := 59) dX12_does_56 (by decide) rfl (fun _ => ?_) (fun hn => absurd hn g15)
            refine x_aload_n (pc' := 62) dX12_does_61 rfl rfl ?_
            refine x_aload_n (pc' := 63) dX12_does_62 rfl rfl ?_
            refine x_getr (pc' := 66) (t := 113) dX12_does_63 f_X12_82 (by decide) rfl rfl rfl rfl ?_
            refine x_aload_n (pc' := 67) dX12_does_66 rfl rfl ?_
            refine x_getr (pc' := 70) (t := 114) dX12_does_67 f_X12_85 (by decide) rfl rfl rfl rfl ?_
            refine x_iconst (pc' := 71) (x := 0) dX12_does_70 (by decide) rfl ?_
            refine xg_bV h (fun hi17 hl17 r17 e16 h => ?_)
            refine x_callV (pc' := 74) (S := []) (As := [.ref 113, .ref 114, .int (0 : Int32)]) (b' := (0, 0, 0)) dX12_does_71 l_X12_248 m_X12_copy rfl rfl (show 90 < 122 by decide) rfl (Nat.le_of_ble_eq_true rfl) (Nat.le_of_ble_eq_true rfl) (Nat.le_of_ble_eq_true rfl) (Nat.le_of_ble_eq_true rfl) (r_X12_copy _ _ _ _ _ _ _ e16) rfl ?_
            refine x_aload_n (pc' := 75) dX12_does_74 rfl rfl ?_
            refine x_iload_n (pc' := 76) dX12_does_75 rfl rfl ?_
            refine x_iload_n (pc' := 77) dX12_does_76 rfl rfl ?_
            refine x_iload_n (pc' := 78) dX12_does_77 rfl rfl ?_
            refine x_iload (pc' := 80) dX12_does_78 rfl rfl ?_
            refine x_iload (pc' := 82) dX12_does_80 rfl rfl ?_
            refine x_iconst (pc' := 83) (x := 0) dX12_does_82 (by decide) rfl ?_
            refine xg_bI h (fun w19 hi19 hl19 r19 e18 h => ?_)
            refine x_callV (pc' := 86) (S := []) (As := [.int v1, .int v2, .int v3, .int v4, .int v5, .int (0 : Int32)]) (b' := (6, 0, 0)) dX12_does_83 l_X12_277 m_X12_goes rfl rfl (show 90 < 122 by decide) rfl (Nat.le_of_ble_eq_true rfl) (Nat.le_of_ble_eq_true rfl) (Nat.le_of_ble_eq_true rfl) (Nat.le_of_ble_eq_true rfl) (r_X12_goes _ _ _ _ _ _ _ _ _ _ e18) rfl ?_
            refine x_istore (pc' := 88) (L' := [some (.ref 90), some (.int v1), some (.int v2), some (.int v3), some (.int v4), some (.int v5), some (.int w19)]) dX12_does_86 (Nat.le_of_ble_eq_true rfl) rfl rfl ?_
            refine x_iload (pc' := 90) dX12_does_88 rfl rfl ?_
            refine xg_ite h (fun g20 h => ?_) (fun g20 h => ?_)
            · refine x_if_ne (tgt := 97) (pc' := 93) dX12_does_90 (by decide) rfl (fun hn => absurd g20 hn) (fun _ => ?_)
              refine x_aload_n (pc' := 94) dX12_does_93 rfl rfl ?_
              refine xg_bV h (fun hi22 hl22 r22 e21 h => ?_)
              refine x_callV (pc' := 97) (S := []) (As := []) (b' := (0, 0, 0)) dX12_does_94 l_X12_252 m_X12_know rfl rfl (show 90 < 122 by decide) rfl (Nat.le_of_ble_eq_true rfl) (Nat.le_of_ble_eq_true rfl) (Nat.le_of_ble_eq_true rfl) (Nat.le_of_ble_eq_true rfl) (r_X12_know _ _ _ _ e21) rfl ?_
              refine x_iload (pc' := 99) dX12_does_97 rfl rfl ?_
              obtain rfl := Option.some.inj h
              exact x_iret dX12_does_99 rfl rfl (Nat.le_of_ble_eq_true rfl) rfl
            · refine x_if_ne (tgt := 97) (pc' := 93) dX12_does_90 (by decide) rfl (fun _ => ?_) (fun hn => absurd hn g20)
              refine x_iload (pc' := 99) dX12_does_97 rfl rfl ?_
              obtain rfl := Option.some.inj h
              exact x_iret dX12_does_99 rfl rfl (Nat.le_of_ble_eq_true rfl) rfl
def F_X12_lesser (v1 : Int32) (v2 : Int32) (hi : Nat → Nat → Int32) (hl : Nat → Nat → Int64) (r : xRr) : Option (Int32 × xSt) := if xok v1 8 = true then if xok v2 8 = true then if (hi 98 (Int32.toNatClampNeg v2)) ≤ (hi 98 (Int32.toNatClampNeg v1)) then some ((hi 98 (Int32.toNatClampNeg v2)), hi, hl, r) else some ((hi 98 (Int32.toNatClampNeg v1)), hi, hl, r) else none else none
set_option maxRecDepth 20000 in
set_option maxHeartbeats 2000000 in
theorem r_X12_lesser (v1 : Int32) (v2 : Int32) (hi : Nat → Nat → Int32) (hl : Nat → Nat → Int64) (r : xRr) (o : Int32 × xSt) (h : F_X12_lesser v1 v2 hi hl r = some o) : xM yX12_lesser cX12_lesser 3 1 (0, 0, 0) z [.ref 90, .int v1, .int v2] (xhp hi hl r) (xoI o) := by
  refine x_meth2 (C := RX12) (ini := false) (L := [some (.ref 90), some (.int v1), some (.int v2)]) rfl (by decide) (fun h9 => by cases h9) (by decide) (Nat.le_of_ble_eq_true rfl) rfl ?_
  refine x_aload_n (pc' := 1) dX12_lesser_0 rfl rfl ?_
  refine x_getr (pc' := 4) (t := 98) dX12_lesser_1 f_X12_32 (by decide) rfl rfl rfl rfl ?_
  refine x_iload_n (pc' := 5) dX12_lesser_4 rfl rfl ?_
  refine xg_if h (fun g1 h => ?_)
  refine x_iald (pc' := 6) dX12_lesser_5 (by decide) rfl (xok_in g1) rfl ?_
  refine x_aload_n (pc' := 7) dX12_lesser_6 rfl rfl ?_
  refine x_getr (pc' := 10) (t := 98) dX12_lesser_7 f_X12_32 (by decide) rfl rfl rfl rfl ?_
  refine x_iload_n (pc' := 11) dX12_lesser_10 rfl rfl ?_
  refine xg_if h (fun g2 h => ?_)
  refine x_iald (pc' := 12) dX12_lesser_11 (by decide) rfl (xok_in g2) rfl ?_
  refine xg_ite h (fun g3 h => ?_) (fun g3 h => ?_)
  · refine x_icmp_ge (tgt := 24) (pc' := 15) dX12_lesser_12 (by decide) rfl (fun _ => ?_) (fun hn => absurd g3 hn)
    refine x_aload_n (pc' := 25) dX12_lesser_24 rfl rfl ?_
    refine x_getr (pc' := 28) (t := 98) dX12_lesser_25 f_X12_32 (by decide) rfl rfl rfl rfl ?_
    refine x_iload_n (pc' := 29) dX12_lesser_28 rfl rfl ?_
    refine x_iald (pc' := 30) dX12_lesser_29 (by decide) rfl (xok_in g2) rfl ?_
    obtain rfl := Option.some.inj h
    exact x_iret dX12_lesser_30 rfl rfl (Nat.le_of_ble_eq_true rfl) rfl
  · refine x_icmp_ge (tgt := 24) (pc' := 15) dX12_lesser_12 (by decide) rfl (fun hn => absurd hn g3) (fun _ => ?_)
    refine x_aload_n (pc' := 16) dX12_lesser_15 rfl rfl ?_
    refine x_getr (pc' := 19) (t := 98) dX12_lesser_16 f_X12_32 (by decide) rfl rfl rfl rfl ?_
    refine x_iload_n (pc' := 20) dX12_lesser_19 rfl rfl ?_
    refine x_iald (pc' := 21) dX12_lesser_20 (by decide) rfl (xok_in g1) rfl ?_
    refine x_goto (tgt := 30) dX12_lesser_21 (by decide) ?_
    obtain rfl := Option.some.inj h
    exact x_iret dX12_lesser_30 rfl rfl (Nat.le_of_ble_eq_true rfl) rfl
def F_X12_has (v0 : Int32) (v1 : Int32) : Option (Int32) := if ((v0 >>> (v1 &&& 31)) &&& (1 : Int32)) = (1 : Int32) then some (1 : Int32) else some (0 : Int32)
set_option maxRecDepth 20000 in
set_option maxHeartbeats 2000000 in
theorem r_X12_has (v0 : Int32) (v1 : Int32) (H : xHp) (o : Int32) (h : F_X12_has v0 v1 = some o) : xM yX12_has cX12_has 2 3 (0, 0, 0) z [.int v0, .int v1] H (some (.int o), H) := by
  refine x_meth2 (C := RX12) (ini := false) (L := [some (.int v0), some (.int v1)]) rfl (by decide) (fun h9 => by cases h9) (by decide) (Nat.le_of_ble_eq_true rfl) rfl ?_
  refine x_iload_n (pc' := 1) dX12_has_0 rfl rfl ?_
  refine x_iload_n (pc' := 2) dX12_has_1 rfl rfl ?_
  refine x_ishr (pc' := 3) dX12_has_2 rfl ?_
  refine x_iconst (pc' := 4) (x := 1) dX12_has_3 (by decide) rfl ?_
  refine x_iand (pc' := 5) dX12_has_4 rfl ?_
  refine x_iconst (pc' := 6) (x := 1) dX12_has_5 (by decide) rfl ?_
  refine xg_ite h (fun g1 h => ?_) (fun g1 h => ?_)
  · refine x_icmp_ne (tgt := 13) (pc' := 9) dX12_has_6 (by decide) rfl (fun hn => absurd g1 hn) (fun _ => ?_)
    refine x_iconst (pc' := 10) (x := 1) dX12_has_9 (by decide) rfl ?_
    refine x_goto (tgt := 14) dX12_has_10 (by decide) ?_
    obtain rfl := Option.some.inj h
    exact x_zret dX12_has_14 rfl (Or.inr rfl) rfl (Nat.le_of_ble_eq_true rfl) rfl
  · refine x_icmp_ne (tgt := 13) (pc' := 9) dX12_has_6 (by decide) rfl (fun _ => ?_) (fun hn => absurd hn g1)
    refine x_iconst (pc' := 14) (x := 0) dX12_has_13 (by decide) rfl ?_
    obtain rfl := Option.some.inj h
    exact x_zret dX12_has_14 rfl (Or.inl rfl) rfl (Nat.le_of_ble_eq_true rfl) rfl
def F_X12_copiesAll_130 (K66 : Int32 → Int32 → Int32 → Int32 → Int32 → (Nat → Nat → Int32) → (Nat → Nat → Int64) → xRr → Option (Int32 × xSt)) (v1 : Int32) (v2 : Int32) (v3 : Int32) (v4 : Int32) (v5 : Int32) (hi : Nat → Nat → Int32) (hl : Nat → Nat → Int64) (r : xRr) : Option (Int32 × xSt) := K66 v1 v2 v3 v4 (v5 + (1)) hi hl r
set_option maxRecDepth 20000 in
set_option maxHeartbeats 2000000 in
theorem r_X12_copiesAll_130 (K66 : Int32 → Int32 → Int32 → Int32 → Int32 → (Nat → Nat → Int32) → (Nat → Nat → Int64) → xRr → Option (Int32 × xSt)) (hK66 : ∀ (v1 : Int32) (v2 : Int32) (v3 : Int32) (v4 : Int32) (v5 : Int32) (hi : Nat → Nat → Int32) (hl : Nat → Nat → Int64) (r : xRr) (o : Int32 × xSt), K66 v1 v2 v3 v4 v5 hi hl r = some o → xR (RX12, cX12_copiesAll, 6, false, 1) (6, 0, 0) z 0 0 66 [some (.ref 90), some (.int v1), some (.int v2), some (.int v3), some (.int v4), some (.int v5)] [] (xhp hi hl r) (xoI o)) (v1 : Int32) (v2 : Int32) (v3 : Int32) (v4 : Int32) (v5 : Int32) (hi : Nat → Nat → Int32) (hl : Nat → Nat → Int64) (r : xRr) (o : Int32 × xSt) (h : F_X12_copiesAll_130 K66 v1 v2 v3 v4 v5 hi hl r = some o) : xR (RX12, cX12_copiesAll, 6, false, 1) (6, 0, 0) z 0 0 130 [some (.ref 90), some (.int v1), some (.int v2), some (.int v3), some (.int v4), some (.int v5)] [] (xhp hi hl r) (xoI o) := by
  refine x_iinc (pc' := 133) (v := (v5 + (1))) (L' := [some (.ref 90), some (.int v1), some (.int v2), some (.int v3), some (.int v4), some (.int (v5 + (1)))]) dX12_copiesAll_130 rfl rfl (Nat.le_of_ble_eq_true rfl) rfl rfl ?_
  refine x_goto (tgt := 66) dX12_copiesAll_133 (by decide) ?_
  exact hK66 _ _ _ _ _ _ _ _ _ h
def F_X12_copiesAll_66 : Nat → Int32 → Int32 → Int32 → Int32 → Int32 → (Nat → Nat → Int32) → (Nat → Nat → Int64) → xRr → Option (Int32 × xSt)
  | 0, _, _, _, _, _, _, _, _ => none
  | n + 1, v1, v2, v3, v4, v5, hi, hl, r => if v3 ≤ v5 then some (v4, hi, hl, r) else if xok v5 12 = true then xbP (F_X12_has v4 v5) (fun w4 => if w4 = 0 then if xok v1 8 = true then xbI (F_X12_ends v2 v5 ((xu hi 90 31 (hi 115 (Int32.toNatClampNeg v5))) 99 (Int32.toNatClampNeg v1)) (0 : Int32) (xu hi 90 31 (hi 115 (Int32.toNatClampNeg v5))) (xu hl 90 32 (hl 116 (Int32.toNatClampNeg v5))) r) (fun w8 hi8 hl8 r8 => if w8 = 0 then F_X12_copiesAll_130 (F_X12_copiesAll_66 n) v1 v2 v3 v4 v5 hi8 hl8 r8 else F_X12_copiesAll_130 (F_X12_copiesAll_66 n) v1 v2 v3 (v4 ||| ((1 : Int32) <<< (v5 &&& 31))) v5 hi8 hl8 r8) else none else F_X12_copiesAll_130 (F_X12_copiesAll_66 n) v1 v2 v3 v4 v5 (xu hi 90 31 (hi 115 (Int32.toNatClampNeg v5))) (xu hl 90 32 (hl 116 (Int32.toNatClampNeg v5))) r) else none
set_option maxRecDepth 20000 in
set_option maxHeartbeats 2000000 in
theorem r_X12_copiesAll_66 : ∀ (n : Nat) (v1 : Int32) (v2 : Int32) (v3 : Int32) (v4 : Int32) (v5 : Int32) (hi : Nat → Nat → Int32) (hl : Nat → Nat → Int64) (r : xRr) (o : Int32 × xSt), F_X12_copiesAll_66 n v1 v2 v3 v4 v5 hi hl r = some o → xR (RX12, cX12_copiesAll, 6, false, 1) (6, 0, 0) z 0 0 66 [some (.ref 90), some (.int v1), some (.int v2), some (.int v3), some (.int v4), some (.int v5)] [] (xhp hi hl r) (xoI o) := by
  intro n
  induction n with
  | zero =>
    intro v1 v2 v3 v4 v5 hi hl r o h
    have h : none = some o := h
    cases h
  | succ n ih =>
    intro v1 v2 v3 v4 v5 hi hl r o h
    refine x_iload (pc' := 68) dX12_copiesAll_66 rfl rfl ?_
    refine x_iload_n (pc' := 69) dX12_copiesAll_68 rfl rfl ?_
    refine xg_ite h (fun g1 h => ?_) (fun g1 h => ?_)
    · refine x_icmp_ge (tgt := 136) (pc' := 72) dX12_copiesAll_69 (by decide) rfl (fun _ => ?_) (fun hn => absurd g1 hn)
      refine x_iload (pc' := 138) dX12_copiesAll_136 rfl rfl ?_
      obtain rfl := Option.some.inj h
      exact x_iret dX12_copiesAll_138 rfl rfl (Nat.le_of_ble_eq_true rfl) rfl
    · refine x_icmp_ge (tgt := 136) (pc' := 72) dX12_copiesAll_69 (by decide) rfl (fun hn => absurd hn g1) (fun _ => ?_)
      refine x_aload_n (pc' := 73) dX12_copiesAll_72 rfl rfl ?_
      refine x_aload_n (pc' := 74) dX12_copiesAll_73 rfl rfl ?_
      refine x_getr (pc' := 77) (t := 115) dX12_copiesAll_74 f_X12_88 (by decide) rfl rfl rfl rfl ?_
      refine x_iload (pc' := 79) dX12_copiesAll_77 rfl rfl ?_
      refine xg_if h (fun g2 h => ?_)
      refine x_iald (pc' := 80) dX12_copiesAll_79 (by decide) rfl (xok_in g2) rfl ?_
      refine x_puti (pc' := 83) dX12_copiesAll_80 f_X12_182 (Or.inl rfl) (by decide) rfl rfl rfl ?_
      refine x_aload_n (pc' := 84) dX12_copiesAll_83 rfl rfl ?_
      refine x_aload_n (pc' := 85) dX12_copiesAll_84 rfl rfl ?_
      refine x_getr (pc' := 88) (t := 116) dX12_copiesAll_85 f_X12_91 (by decide) rfl rfl rfl rfl ?_
      refine x_iload (pc' := 90) dX12_copiesAll_88 rfl rfl ?_
      refine x_lald (pc' := 91) dX12_copiesAll_90 (by decide) rfl (xok_in g2) rfl ?_
      refine x_putl (pc' := 94) dX12_copiesAll_91 f_X12_185 (Or.inl rfl) (by decide) rfl rfl rfl ?_
      refine x_iload (pc' := 96) dX12_copiesAll_94 rfl rfl ?_
      refine x_iload (pc' := 98) dX12_copiesAll_96 rfl rfl ?_
      refine xg_bP h (fun w4 e3 h => ?_)
      refine x_callS (pc' := 101) (S := []) (As := [.int v4, .int v5]) (b' := (0, 0, 0)) dX12_copiesAll_98 l_X12_281 m_X12_has rfl rfl (Nat.le_of_ble_eq_true rfl) (Nat.le_of_ble_eq_true rfl) (Nat.le_of_ble_eq_true rfl) (Nat.le_of_ble_eq_true rfl) (r_X12_has _ _ _ _ e3) rfl ?_
      refine xg_ite h (fun g5 h => ?_) (fun g5 h => ?_)
      · refine x_if_ne (tgt := 130) (pc' := 104) dX12_copiesAll_101 (by decide) rfl (fun hn => absurd g5 hn) (fun _ => ?_)
        refine x_aload_n (pc' := 105) dX12_copiesAll_104 rfl rfl ?_
        refine x_iload_n (pc' := 106) dX12_copiesAll_105 rfl rfl ?_
        refine x_iload (pc' := 108) dX12_copiesAll_106 rfl rfl ?_
        refine x_aload_n (pc' := 109) dX12_copiesAll_108 rfl rfl ?_
        refine x_getr (pc' := 112) (t := 99) dX12_copiesAll_109 f_X12_35 (by decide) rfl rfl rfl rfl ?_
        refine x_iload_n (pc' := 113) dX12_copiesAll_112 rfl rfl ?_
        refine xg_if h (fun g6 h => ?_)
        refine x_iald (pc' := 114) dX12_copiesAll_113 (by decide) rfl (xok_in g6) rfl ?_
        refine x_iconst (pc' := 115) (x := 0) dX12_copiesAll_114 (by decide) rfl ?_
        refine xg_bI h (fun w8 hi8 hl8 r8 e7 h => ?_)
        refine x_callV (pc' := 118) (S := []) (As := [.int v2, .int v5, .int ((xu hi 90 31 (hi 115 (Int32.toNatClampNeg v5))) 99 (Int32.toNatClampNeg v1)), .int (0 : Int32)]) (b' := (5, 0, 0)) dX12_copiesAll_115 l_X12_259 m_X12_ends rfl rfl (show 90 < 122 by decide) rfl (Nat.le_of_ble_eq_true rfl) (Nat.le_of_ble_eq_true rfl) (Nat.le_of_ble_eq_true rfl) (Nat.le_of_ble_eq_true rfl) (r_X12_ends _ _ _ _ _ _ _ _ e7) rfl ?_
        refine xg_ite h (fun g9 h => ?_) (fun g9 h => ?_)
        · refine x_if_eq (tgt := 130) (pc' := 121) dX12_copiesAll_118 (by decide) rfl (fun _ => ?_) (fun hn => absurd g9 hn)
          exact r_X12_copiesAll_130 (F_X12_copiesAll_66 n) ih _ _ _ _ _ _ _ _ _ h
        · refine x_if_eq (tgt := 130) (pc' := 121) dX12_copiesAll_118 (by decide) rfl (fun hn => absurd hn g9) (fun _ => ?_)
          refine x_iload (pc' := 123) dX12_copiesAll_121 rfl rfl ?_
          refine x_iconst (pc' := 124) (x := 1) dX12_copiesAll_123 (by decide) rfl ?_
          refine x_iload (pc' := 126) dX12_copiesAll_124 rfl rfl ?_
          refine x_ishl (pc' := 127) dX12_copiesAll_126 rfl ?_
          refine x_ior (pc' := 128) dX12_copiesAll_127 rfl ?_
          refine x_istore (pc' := 130) (L' := [some (.ref 90), some (.int v1), some (.int v2), some (.int v3), some (.int (v4 ||| ((1 : Int32) <<< (v5 &&& 31)))), some (.int v5)]) dX12_copiesAll_128 (Nat.le_of_ble_eq_true rfl) rfl rfl ?_
          exact r_X12_copiesAll_130 (F_X12_copiesAll_66 n) ih _ _ _ _ _ _ _ _ _ h
      · refine x_if_ne (tgt := 130) (pc' := 104) dX12_copiesAll_101 (by decide) rfl (fun _ => ?_) (fun hn => absurd hn g5)
        exact r_X12_copiesAll_130 (F_X12_copiesAll_66 n) ih _ _ _ _ _ _ _ _ _ h
def F_X12_copiesAll_32 (K6 : Int32 → Int32 → Int32 → Int32 → Int32 → (Nat → Nat → Int32) → (Nat → Nat → Int64) → xRr → Option (Int32 × xSt)) (v1 : Int32) (v2 : Int32) (v3 : Int32) (v5 : Int32) (s0 : Int32) (s1 : Int32) (hi : Nat → Nat → Int32) (hl : Nat → Nat → Int64) (r : xRr) : Option (Int32 × xSt) := if xok v5 12 = true then K6 v1 v2 v3 (s0 ||| s1) (v5 + (1)) (xu hi 115 (Int32.toNatClampNeg v5) (hi 90 31)) (xu hl 116 (Int32.toNatClampNeg v5) (hl 90 32)) r else none
set_option maxRecDepth 20000 in
set_option maxHeartbeats 2000000 in
theorem r_X12_copiesAll_32 (K6 : Int32 → Int32 → Int32 → Int32 → Int32 → (Nat → Nat → Int32) → (Nat → Nat → Int64) → xRr → Option (Int32 × xSt)) (hK6 : ∀ (v1 : Int32) (v2 : Int32) (v3 : Int32) (v4 : Int32) (v5 : Int32) (hi : Nat → Nat → Int32) (hl : Nat → Nat → Int64) (r : xRr) (o : Int32 × xSt), K6 v1 v2 v3 v4 v5 hi hl r = some o → xR (RX12, cX12_copiesAll, 6, false, 1) (6, 0, 0) z 0 0 6 [some (.ref 90), some (.int v1), some (.int v2), some (.int v3), some (.int v4), some (.int v5)] [] (xhp hi hl r) (xoI o)) (v1 : Int32) (v2 : Int32) (v3 : Int32) (v5 : Int32) (s0 : Int32) (s1 : Int32) (d4 : Option Value) (hi : Nat → Nat → Int32) (hl : Nat → Nat → Int64) (r : xRr) (o : Int32 × xSt) (h : F_X12_copiesAll_32 K6 v1 v2 v3 v5 s0 s1 hi hl r = some o) : xR (RX12, cX12_copiesAll, 6, false, 1) (6, 0, 0) z 0 0 32 [some (.ref 90), some (.int v1), some (.int v2), some (.int v3), d4, some (.int v5)] [.int s1, .int s0] (xhp hi hl r) (xoI o) := by
  refine x_ior (pc' := 33) dX12_copiesAll_32 rfl ?_
  refine x_istore (pc' := 35) (L' := [some (.ref 90), some (.int v1), some (.int v2), some (.int v3), some (.int (s0 ||| s1)), some (.int v5)]) dX12_copiesAll_33 (Nat.le_of_ble_eq_true rfl) rfl rfl ?_
  refine x_aload_n (pc' := 36) dX12_copiesAll_35 rfl rfl ?_
  refine x_getr (pc' := 39) (t := 115) dX12_copiesAll_36 f_X12_88 (by decide) rfl rfl rfl rfl ?_
  refine x_iload (pc' := 41) dX12_copiesAll_39 rfl rfl ?_
  refine x_aload_n (pc' := 42) dX12_copiesAll_41 rfl rfl ?_
  refine x_geti (pc' := 45) dX12_copiesAll_42 f_X12_182 (by decide) rfl rfl rfl ?_
  refine xg_if h (fun g1 h => ?_)
  refine x_iast (pc' := 46) dX12_copiesAll_45 (by decide) rfl (xok_in g1) rfl ?_
  refine x_aload_n (pc' := 47) dX12_copiesAll_46 rfl rfl ?_
  refine x_getr (pc' := 50) (t := 116) dX12_copiesAll_47 f_X12_91 (by decide) rfl rfl rfl rfl ?_
  refine x_iload (pc' := 52) dX12_copiesAll_50 rfl rfl ?_
  refine x_aload_n (pc' := 53) dX12_copiesAll_52 rfl rfl ?_
  refine x_getl (pc' := 56) dX12_copiesAll_53 f_X12_185 (by decide) rfl rfl rfl ?_
  refine x_last (pc' := 57) dX12_copiesAll_56 (by decide) rfl (xok_in g1) rfl ?_
  refine x_iinc (pc' := 60) (v := (v5 + (1))) (L' := [some (.ref 90), some (.int v1), some (.int v2), some (.int v3), some (.int (s0 ||| s1)), some (.int (v5 + (1)))]) dX12_copiesAll_57 rfl rfl (Nat.le_of_ble_eq_true rfl) rfl rfl ?_
  refine x_goto (tgt := 6) dX12_copiesAll_60 (by decide) ?_
  exact hK6 _ _ _ _ _ _ _ _ _ h
def F_X12_copiesAll_6 : Nat → Int32 → Int32 → Int32 → Int32 → Int32 → (Nat → Nat → Int32) → (Nat → Nat → Int64) → xRr → Option (Int32 × xSt)
  | 0, _, _, _, _, _, _, _, _ => none
  | n + 1, v1, v2, v3, v4, v5, hi, hl, r => if v3 ≤ v5 then F_X12_copiesAll_66 1000000 v1 v2 v3 v4 (0 : Int32) hi hl r else xbI (F_X12_read v1 v5 hi hl r) (fun w3 hi3 hl3 r3 => if w3 = 0 then F_X12_copiesAll_32 (F_X12_copiesAll_6 n) v1 v2 v3 v5 v4 (0 : Int32) hi3 hl3 r3 else F_X12_copiesAll_32 (F_X12_copiesAll_6 n) v1 v2 v3 v5 v4 ((1 : Int32) <<< (v5 &&& 31)) hi3 hl3 r3)
set_option maxRecDepth 20000 in
set_option maxHeartbeats 2000000 in
theorem r_X12_copiesAll_6 : ∀ (n : Nat) (v1 : Int32) (v2 : Int32) (v3 : Int32) (v4 : Int32) (v5 : Int32) (hi : Nat → Nat → Int32) (hl : Nat → Nat → Int64) (r : xRr) (o : Int32 × xSt), F_X12_copiesAll_6 n v1 v2 v3 v4 v5 hi hl r = some o → xR (RX12, cX12_copiesAll, 6, false, 1) (6, 0, 0) z 0 0 6 [some (.ref 90), some (.int v1), some (.int v2), some (.int v3), some (.int v4), some (.int v5)] [] (xhp hi hl r) (xoI o) := by
  intro n
  induction n with
  | zero =>
    intro v1 v2 v3 v4 v5 hi hl r o h
    have h : none = some o := h
    cases h
  | succ n ih =>
    intro v1 v2 v3 v4 v5 hi hl r o h
    refine x_iload (pc' := 8) dX12_copiesAll_6 rfl rfl ?_
    refine x_iload_n (pc' := 9) dX12_copiesAll_8 rfl rfl ?_
    refine xg_ite h (fun g1 h => ?_) (fun g1 h => ?_)
    · refine x_icmp_ge (tgt := 63) (pc' := 12) dX12_copiesAll_9 (by decide) rfl (fun _ => ?_) (fun hn => absurd g1 hn)
      refine x_iconst (pc' := 64) (x := 0) dX12_copiesAll_63 (by decide) rfl ?_
      refine x_istore (pc' := 66) (L' := [some (.ref 90), some (.int v1), some (.int v2), some (.int v3), some (.int v4), some (.int (0 : Int32))]) dX12_copiesAll_64 (Nat.le_of_ble_eq_true rfl) rfl rfl ?_
      exact r_X12_copiesAll_66 1000000 _ _ _ _ _ _ _ _ _ h
    · refine x_icmp_ge (tgt := 63) (pc' := 12) dX12_copiesAll_9 (by decide) rfl (fun hn => absurd hn g1) (fun _ => ?_)
      refine x_iload (pc' := 14) dX12_copiesAll_12 rfl rfl ?_
      refine x_aload_n (pc' := 15) dX12_copiesAll_14 rfl rfl ?_
      refine x_iload_n (pc' := 16) dX12_copiesAll_15 rfl rfl ?_
      refine x_iload (pc' := 18) dX12_copiesAll_16 rfl rfl ?_
      refine xg_bI h (fun w3 hi3 hl3 r3 e2 h => ?_)
      refine x_callV (pc' := 21) (S := [.int v4]) (As := [.int v1, .int v5]) (b' := (4, 0, 0)) dX12_copiesAll_18 l_X12_227 m_X12_read rfl rfl (show 90 < 122 by decide) rfl (Nat.le_of_ble_eq_true rfl) (Nat.le_of_ble_eq_true rfl) (Nat.le_of_ble_eq_true rfl) (Nat.le_of_ble_eq_true rfl) (r_X12_read _ _ _ _ _ _ e2) rfl ?_
      refine xg_ite h (fun g4 h => ?_) (fun g4 h => ?_)
      · refine x_if_eq (tgt := 31) (pc' := 24) dX12_copiesAll_21 (by decide) rfl (fun _ => ?_) (fun hn => absurd g4 hn)
        refine x_iconst (pc' := 32) (x := 0) dX12_copiesAll_31 (by decide) rfl ?_
        exact r_X12_copiesAll_32 (F_X12_copiesAll_6 n) ih _ _ _ _ _ _ _ _ _ _ _ h
      · refine x_if_eq (tgt := 31) (pc' := 24) dX12_copiesAll_21 (by decide) rfl (fun hn => absurd hn g4) (fun _ => ?_)
        refine x_iconst (pc' := 25) (x := 1) dX12_copiesAll_24 (by decide) rfl ?_
        refine x_iload (pc' := 27) dX12_copiesAll_25 rfl rfl ?_
        refine x_ishl (pc' := 28) dX12_copiesAll_27 rfl ?_
        refine x_goto (tgt := 32) dX12_copiesAll_28 (by decide) ?_
        exact r_X12_copiesAll_32 (F_X12_copiesAll_6 n) ih _ _ _ _ _ _ _ _ _ _ _ h
def F_X12_copiesAll (v1 : Int32) (v2 : Int32) (v3 : Int32) (hi : Nat → Nat → Int32) (hl : Nat → Nat → Int64) (r : xRr) : Option (Int32 × xSt) := F_X12_copiesAll_6 1000000 v1 v2 v3 (0 : Int32) (0 : Int32) hi hl r
set_option maxRecDepth 20000 in
set_option maxHeartbeats 2000000 in
theorem r_X12_copiesAll (v1 : Int32) (v2 : Int32) (v3 : Int32) (hi : Nat → Nat → Int32) (hl : Nat → Nat → Int64) (r : xRr) (o : Int32 × xSt) (h : F_X12_copiesAll v1 v2 v3 hi hl r = some o) : xM yX12_copiesAll cX12_copiesAll 6 1 (6, 0, 0) z [.ref 90, .int v1, .int v2, .int v3] (xhp hi hl r) (xoI o) := by
  refine x_meth2 (C := RX12) (ini := false) (L := [some (.ref 90), some (.int v1), some (.int v2), some (.int v3), none, none]) rfl (by decide) (fun h9 => by cases h9) (by decide) (Nat.le_of_ble_eq_true rfl) rfl ?_
  refine x_iconst (pc' := 1) (x := 0) dX12_copiesAll_0 (by decide) rfl ?_
  refine x_istore (pc' := 3) (L' := [some (.ref 90), some (.int v1), some (.int v2), some (.int v3), some (.int (0 : Int32)), none]) dX12_copiesAll_1 (Nat.le_of_ble_eq_true rfl) rfl rfl ?_
  refine x_iconst (pc' := 4) (x := 0) dX12_copiesAll_3 (by decide) rfl ?_
  refine x_istore (pc' := 6) (L' := [some (.ref 90), some (.int v1), some (.int v2), some (.int v3), some (.int (0 : Int32)), some (.int (0 : Int32))]) dX12_copiesAll_4 (Nat.le_of_ble_eq_true rfl) rfl rfl ?_
  exact r_X12_copiesAll_6 1000000 _ _ _ _ _ _ _ _ _ h
def F_X12_copies_130 (K80 : Int32 → Int32 → Int32 → Int32 → Int32 → Int32 → (Nat → Nat → Int32) → (Nat → Nat → Int64) → xRr → Option (Int32 × xSt)) (v1 : Int32) (v2 : Int32) (v3 : Int32) (v4 : Int32) (v6 : Int32) (s0 : Int32) (s1 : Int32) (hi : Nat → Nat → Int32) (hl : Nat → Nat → Int64) (r : xRr) : Option (Int32 × xSt) := K80 v1 v2 v3 v4 (s0 ||| s1) (v6 + (1)) hi hl r
set_option maxRecDepth 20000 in
set_option maxHeartbeats 2000000 in
theorem r_X12_copies_130 (K80 : Int32 → Int32 → Int32 → Int32 → Int32 → Int32 → (Nat → Nat → Int32) → (Nat → Nat → Int64) → xRr → Option (Int32 × xSt)) (hK80 : ∀ (v1 : Int32) (v2 : Int32) (v3 : Int32) (v4 : Int32) (v5 : Int32) (v6 : Int32) (d7 : Option Value) (hi : Nat → Nat → Int32) (hl : Nat → Nat → Int64) (r : xRr) (o : Int32 × xSt), K80 v1 v2 v3 v4 v5 v6 hi hl r = some o → xR (RX12, cX12_copies, 8, false, 1) (7, 0, 0) z 0 0 80 [some (.ref 90), some (.int v1), some (.int v2), some (.int v3), some (.int v4), some (.int v5), some (.int v6), d7] [] (xhp hi hl r) (xoI o)) (v1 : Int32) (v2 : Int32) (v3 : Int32) (v4 : Int32) (v6 : Int32) (s0 : Int32) (s1 : Int32) (d5 : Option Value) (d7 : Option Value) (hi : Nat → Nat → Int32) (hl : Nat → Nat → Int64) (r : xRr) (o : Int32 × xSt) (h : F_X12_copies_130 K80 v1 v2 v3 v4 v6 s0 s1 hi hl r = some o) : xR (RX12, cX12_copies, 8, false, 1) (7, 0, 0) z 0 0 130 [some (.ref 90), some (.int v1), some (.int v2), some (.int v3), some (.int v4), d5, some (.int v6), d7] [.int s1, .int s0] (xhp hi hl r) (xoI o) := by
  refine x_ior (pc' := 131) dX12_copies_130 rfl ?_
  refine x_istore (pc' := 133) (L' := [some (.ref 90), some (.int v1), some (.int v2), some (.int v3), some (.int v4), some (.int (s0 ||| s1)), some (.int v6), d7]) dX12_copies_131 (Nat.le_of_ble_eq_true rfl) rfl rfl ?_
  refine x_iinc (pc' := 136) (v := (v6 + (1))) (L' := [some (.ref 90), some (.int v1), some (.int v2), some (.int v3), some (.int v4), some (.int (s0 ||| s1)), some (.int (v6 + (1))), d7]) dX12_copies_133 rfl rfl (Nat.le_of_ble_eq_true rfl) rfl rfl ?_
  refine x_goto (tgt := 80) dX12_copies_136 (by decide) ?_
  exact hK80 _ _ _ _ _ _ _ _ _ _ _ h
def F_X12_copies_103 (K80 : Int32 → Int32 → Int32 → Int32 → Int32 → Int32 → (Nat → Nat → Int32) → (Nat → Nat → Int64) → xRr → Option (Int32 × xSt)) (v1 : Int32) (v2 : Int32) (v3 : Int32) (v4 : Int32) (v5 : Int32) (v6 : Int32) (s0 : Int32) (hi : Nat → Nat → Int32) (hl : Nat → Nat → Int64) (r : xRr) : Option (Int32 × xSt) := xbI (F_X12_goes (0 : Int32) v1 s0 v2 s0 (0 : Int32) hi hl r) (fun w2 hi2 hl2 r2 => if w2 = 0 then F_X12_copies_130 K80 v1 v2 v3 v4 v6 v5 (0 : Int32) hi2 hl2 r2 else F_X12_copies_130 K80 v1 v2 v3 v4 v6 v5 ((1 : Int32) <<< (s0 &&& 31)) hi2 hl2 r2)
set_option maxRecDepth 20000 in
set_option maxHeartbeats 2000000 in
theorem r_X12_copies_103 (K80 : Int32 → Int32 → Int32 → Int32 → Int32 → Int32 → (Nat → Nat → Int32) → (Nat → Nat → Int64) → xRr → Option (Int32 × xSt)) (hK80 : ∀ (v1 : Int32) (v2 : Int32) (v3 : Int32) (v4 : Int32) (v5 : Int32) (v6 : Int32) (d7 : Option Value) (hi : Nat → Nat → Int32) (hl : Nat → Nat → Int64) (r : xRr) (o : Int32 × xSt), K80 v1 v2 v3 v4 v5 v6 hi hl r = some o → xR (RX12, cX12_copies, 8, false, 1) (7, 0, 0) z 0 0 80 [some (.ref 90), some (.int v1), some (.int v2), some (.int v3), some (.int v4), some (.int v5), some (.int v6), d7] [] (xhp hi hl r) (xoI o)) (v1 : Int32) (v2 : Int32) (v3 : Int32) (v4 : Int32) (v5 : Int32) (v6 : Int32) (s0 : Int32) (d7 : Option Value) (hi : Nat → Nat → Int32) (hl : Nat → Nat → Int64) (r : xRr) (o : Int32 × xSt) (h : F_X12_copies_103 K80 v1 v2 v3 v4 v5 v6 s0 hi hl r = some o) : xR (RX12, cX12_copies, 8, false, 1) (7, 0, 0) z 0 0 103 [some (.ref 90), some (.int v1), some (.int v2), some (.int v3), some (.int v4), some (.int v5), some (.int v6), d7] [.int s0] (xhp hi hl r) (xoI o) := by
  refine x_istore (pc' := 105) (L' := [some (.ref 90), some (.int v1), some (.int v2), some (.int v3), some (.int v4), some (.int v5), some (.int v6), some (.int s0)]) dX12_copies_103 (Nat.le_of_ble_eq_true rfl) rfl rfl ?_
  refine x_iload (pc' := 107) dX12_copies_105 rfl rfl ?_
  refine x_aload_n (pc' := 108) dX12_copies_107 rfl rfl ?_
  refine x_iconst (pc' := 109) (x := 0) dX12_copies_108 (by decide) rfl ?_
  refine x_iload_n (pc' := 110) dX12_copies_109 rfl rfl ?_
  refine x_iload (pc' := 112) dX12_copies_110 rfl rfl ?_
  refine x_iload_n (pc' := 113) dX12_copies_112 rfl rfl ?_
  refine x_iload (pc' := 115) dX12_copies_113 rfl rfl ?_
  refine x_iconst (pc' := 116) (x := 0) dX12_copies_115 (by decide) rfl ?_
  refine xg_bI h (fun w2 hi2 hl2 r2 e1 h => ?_)
  refine x_callV (pc' := 119) (S := [.int v5]) (As := [.int (0 : Int32), .int v1, .int s0, .int v2, .int s0, .int (0 : Int32)]) (b' := (6, 0, 0)) dX12_copies_116 l_X12_277 m_X12_goes rfl rfl (show 90 < 122 by decide) rfl (Nat.le_of_ble_eq_true rfl) (Nat.le_of_ble_eq_true rfl) (Nat.le_of_ble_eq_true rfl) (Nat.le_of_ble_eq_true rfl) (r_X12_goes _ _ _ _ _ _ _ _ _ _ e1) rfl ?_
  refine xg_ite h (fun g3 h => ?_) (fun g3 h => ?_)
  · refine x_if_eq (tgt := 129) (pc' := 122) dX12_copies_119 (by decide) rfl (fun _ => ?_) (fun hn => absurd g3 hn)
    refine x_iconst (pc' := 130) (x := 0) dX12_copies_129 (by decide) rfl ?_
    exact r_X12_copies_130 K80 hK80 _ _ _ _ _ _ _ _ _ _ _ _ _ h
  · refine x_if_eq (tgt := 129) (pc' := 122) dX12_copies_119 (by decide) rfl (fun hn => absurd hn g3) (fun _ => ?_)
    refine x_iconst (pc' := 123) (x := 1) dX12_copies_122 (by decide) rfl ?_
    refine x_iload (pc' := 125) dX12_copies_123 rfl rfl ?_
    refine x_ishl (pc' := 126) dX12_copies_125 rfl ?_
    refine x_goto (tgt := 130) dX12_copies_126 (by decide) ?_
    exact r_X12_copies_130 K80 hK80 _ _ _ _ _ _ _ _ _ _ _ _ _ h
def F_X12_copies_80 : Nat → Int32 → Int32 → Int32 → Int32 → Int32 → Int32 → (Nat → Nat → Int32) → (Nat → Nat → Int64) → xRr → Option (Int32 × xSt)
  | 0, _, _, _, _, _, _, _, _, _ => none
  | n + 1, v1, v2, v3, v4, v5, v6, hi, hl, r => if v4 ≤ v6 then some (v5, hi, hl, r) else if v3 = 0 then F_X12_copies_103 (F_X12_copies_80 n) v1 v2 v3 v4 v5 v6 v6 hi hl r else F_X12_copies_103 (F_X12_copies_80 n) v1 v2 v3 v4 v5 v6 ((v4 - (1 : Int32)) - v6) hi hl r
set_option maxRecDepth 20000 in
set_option maxHeartbeats 2000000 in
theorem r_X12_copies_80 : ∀ (n : Nat) (v1 : Int32) (v2 : Int32) (v3 : Int32) (v4 : Int32) (v5 : Int32) (v6 : Int32) (d7 : Option Value) (hi : Nat → Nat → Int32) (hl : Nat → Nat → Int64) (r : xRr) (o : Int32 × xSt), F_X12_copies_80 n v1 v2 v3 v4 v5 v6 hi hl r = some o → xR (RX12, cX12_copies, 8, false, 1) (7, 0, 0) z 0 0 80 [some (.ref 90), some (.int v1), some (.int v2), some (.int v3), some (.int v4), some (.int v5), some (.int v6), d7] [] (xhp hi hl r) (xoI o) := by
  intro n
  induction n with
  | zero =>
    intro v1 v2 v3 v4 v5 v6 d7 hi hl r o h
    have h : none = some o := h
    cases h
  | succ n ih =>
    intro v1 v2 v3 v4 v5 v6 d7 hi hl r o h
    refine x_iload (pc' := 82) dX12_copies_80 rfl rfl ?_
    refine x_iload (pc' := 84) dX12_copies_82 rfl rfl ?_
    refine xg_ite h (fun g1 h => ?_) (fun g1 h => ?_)
    · refine x_icmp_ge (tgt := 139) (pc' := 87) dX12_copies_84 (by decide) rfl (fun _ => ?_) (fun hn => absurd g1 hn)
      refine x_iload (pc' := 141) dX12_copies_139 rfl rfl ?_
      obtain rfl := Option.some.inj h
      exact x_iret dX12_copies_141 rfl rfl (Nat.le_of_ble_eq_true rfl) rfl
    · refine x_icmp_ge (tgt := 139) (pc' := 87) dX12_copies_84 (by decide) rfl (fun hn => absurd hn g1) (fun _ => ?_)
      refine x_iload_n (pc' := 88) dX12_copies_87 rfl rfl ?_
      refine xg_ite h (fun g2 h => ?_) (fun g2 h => ?_)
      · refine x_if_ne (tgt := 96) (pc' := 91) dX12_copies_88 (by decide) rfl (fun hn => absurd g2 hn) (fun _ => ?_)
        refine x_iload (pc' := 93) dX12_copies_91 rfl rfl ?_
        refine x_goto (tgt := 103) dX12_copies_93 (by decide) ?_
        exact r_X12_copies_103 (F_X12_copies_80 n) ih _ _ _ _ _ _ _ _ _ _ _ _ h
      · refine x_if_ne (tgt := 96) (pc' := 91) dX12_copies_88 (by decide) rfl (fun _ => ?_) (fun hn => absurd hn g2)
        refine x_iload (pc' := 98) dX12_copies_96 rfl rfl ?_
        refine x_iconst (pc' := 99) (x := 1) dX12_copies_98 (by decide) rfl ?_
        refine x_isub (pc' := 100) dX12_copies_99 rfl ?_
        refine x_iload (pc' := 102) dX12_copies_100 rfl rfl ?_
        refine x_isub (pc' := 103) dX12_copies_102 rfl ?_
        exact r_X12_copies_103 (F_X12_copies_80 n) ih _ _ _ _ _ _ _ _ _ _ _ _ h
def F_X12_copies (v1 : Int32) (v2 : Int32) (v3 : Int32) (hi : Nat → Nat → Int32) (hl : Nat → Nat → Int64) (r : xRr) : Option (Int32 × xSt) := xbI (F_X12_isView v1 (xu hi 90 0 (0 : Int32)) hl r) (fun w2 hi2 hl2 r2 => if w2 = 0 then some (((-1) : Int32), hi2, hl2, r2) else xbI (F_X12_isView v2 hi2 hl2 r2) (fun w5 hi5 hl5 r5 => if w5 = 0 then some (((-1) : Int32), hi5, hl5, r5) else xbP (F_X12_in (Int32.toInt64 v3) (0 : Int64) (2 : Int64)) (fun w8 => if w8 = 0 then some (((-1) : Int32), hi5, hl5, r5) else xbV (F_X12_copy 113 114 (0 : Int32) hi5 hl5 r5) (fun hi11 hl11 r11 => xbV (F_X12_know hi11 hl11 r11) (fun hi13 hl13 r13 => xbI (F_X12_lesser v1 v2 hi13 hl13 r13) (fun w15 hi15 hl15 r15 => if v3 = (2 : Int32) then xbI (F_X12_copiesAll v1 v2 w15 hi15 hl15 r15) (fun w18 hi18 hl18 r18 => some (w18, hi18, hl18, r18)) else F_X12_copies_80 1000000 v1 v2 v3 w15 (0 : Int32) (0 : Int32) hi15 hl15 r15))))))
set_option maxRecDepth 20000 in
set_option maxHeartbeats 2000000 in
theorem r_X12_copies (v1 : Int32) (v2 : Int32) (v3 : Int32) (hi : Nat → Nat → Int32) (hl : Nat → Nat → Int64) (r : xRr) (o : Int32 × xSt) (h : F_X12_copies v1 v2 v3 hi hl r = some o) : xM yX12_copies cX12_copies 8 1 (7, 0, 0) z [.ref 90, .int v1, .int v2, .int v3] (xhp hi hl r) (xoI o) := by
  refine x_meth2 (C := RX12) (ini := false) (L := [some (.ref 90), some (.int v1), some (.int v2), some (.int v3), none, none, none, none]) rfl (by decide) (fun h9 => by cases h9) (by decide) (Nat.le_of_ble_eq_true rfl) rfl ?_
  refine x_aload_n (pc' := 1) dX12_copies_0 rfl rfl ?_
  refine x_iconst (pc' := 2) (x := 0) dX12_copies_1 (by decide) rfl ?_
  refine x_puti (pc' := 5) dX12_copies_2 f_X12_109 (Or.inl rfl) (by decide) rfl rfl rfl ?_
  refine x_aload_n (pc' := 6) dX12_copies_5 rfl rfl ?_
  refine x_iload_n (pc' := 7) dX12_copies_6 rfl rfl ?_
  refine xg_bI h (fun w2 hi2 hl2 r2 e1 h => ?_)
  refine x_callV (pc' := 10) (S := []) (As := [.int v1]) (b' := (1, 0, 0)) dX12_copies_7 l_X12_152 m_X12_isView rfl rfl (show 90 < 122 by decide) rfl (Nat.le_of_ble_eq_true rfl) (Nat.le_of_ble_eq_true rfl) (Nat.le_of_ble_eq_true rfl) (Nat.le_of_ble_eq_true rfl) (r_X12_isView _ _ _ _ _ e1) rfl ?_
  refine xg_ite h (fun g3 h => ?_) (fun g3 h => ?_)
  · refine x_if_eq (tgt := 33) (pc' := 13) dX12_copies_10 (by decide) rfl (fun _ => ?_) (fun hn => absurd g3 hn)
    refine x_iconst (pc' := 34) (x := (-1)) dX12_copies_33 (by decide) rfl ?_
    obtain rfl := Option.some.inj h
    exact x_iret dX12_copies_34 rfl rfl (Nat.le_of_ble_eq_true rfl) rfl
  · refine x_if_eq (tgt := 33) (pc' := 13) dX12_copies_10 (by decide) rfl (fun hn => absurd hn g3) (fun _ => ?_)
    refine x_aload_n (pc' := 14) dX12_copies_13 rfl rfl ?_
    refine x_iload_n (pc' := 15) dX12_copies_14 rfl rfl ?_
    refine xg_bI h (fun w5 hi5 hl5 r5 e4 h => ?_)
    refine x_callV (pc' := 18) (S := []) (As := [.int v2]) (b' := (1, 0, 0)) dX12_copies_15 l_X12_152 m_X12_isView rfl rfl (show 90 < 122 by decide) rfl (Nat.le_of_ble_eq_true rfl) (Nat.le_of_ble_eq_true rfl) (Nat.le_of_ble_eq_true rfl) (Nat.le_of_ble_eq_true rfl) (r_X12_isView _ _ _ _ _ e4) rfl ?_
    refine xg_ite h (fun g6 h => ?_) (fun g6 h => ?_)
    · refine x_if_eq (tgt := 33) (pc' := 21) dX12_copies_18 (by decide) rfl (fun _ => ?_) (fun hn => absurd g6 hn)
      refine x_iconst (pc' := 34) (x := (-1)) dX12_copies_33 (by decide) rfl ?_
      obtain rfl := Option.some.inj h
      exact x_iret dX12_copies_34 rfl rfl (Nat.le_of_ble_eq_true rfl) rfl
    · refine x_if_eq (tgt := 33) (pc' := 21) dX12_copies_18 (by decide) rfl (fun hn => absurd hn g6) (fun _ => ?_)
      refine x_iload_n (pc' := 22) dX12_copies_21 rfl rfl ?_
      refine x_i2l (pc' := 23) dX12_copies_22 rfl ?_
      refine x_lconst (pc' := 24) (x := 0) dX12_copies_23 (by decide) rfl ?_
      refine x_ldc2 (pc' := 27) dX12_copies_24 k_X12_112 rfl ?_
      refine xg_bP h (fun w8 e7 h => ?_)
      refine x_callS (pc' := 30) (S := []) (As := [.long (Int32.toInt64 v3), .long (0 : Int64), .long (2 : Int64)]) (b' := (0, 0, 0)) dX12_copies_27 l_X12_118 m_X12_in rfl rfl (Nat.le_of_ble_eq_true rfl) (Nat.le_of_ble_eq_true rfl) (Nat.le_of_ble_eq_true rfl) (Nat.le_of_ble_eq_true rfl) (r_X12_in _ _ _ _ _ e7) rfl ?_
      refine xg_ite h (fun g9 h => ?_) (fun g9 h => ?_)
      · refine x_if_ne (tgt := 35) (pc' := 33) dX12_copies_30 (by decide) rfl (fun hn => absurd g9 hn) (fun _ => ?_)
        refine x_iconst (pc' := 34) (x := (-1)) dX12_copies_33 (by decide) rfl ?_
        obtain rfl := Option.some.inj h
        exact x_iret dX12_copies_34 rfl rfl (Nat.le_of_ble_eq_true rfl) rfl
      · refine x_if_ne (tgt := 35) (pc' := 33) dX12_copies_30 (by decide) rfl (fun _ => ?_) (fun hn => absurd hn g9)
        refine x_aload_n (pc' := 36) dX12_copies_35 rfl rfl ?_
        refine x_aload_n (pc' := 37) dX12_copies_36 rfl rfl ?_
        refine x_getr (pc' := 40) (t := 113) dX12_copies_37 f_X12_82 (by decide) rfl rfl rfl rfl ?_
        refine x_aload_n (pc' := 41) dX12_copies_40 rfl rfl ?_
        refine x_getr (pc' := 44) (t := 114) dX12_copies_41 f_X12_85 (by decide) rfl rfl rfl rfl ?_
        refine x_iconst (pc' := 45) (x := 0) dX12_copies_44 (by decide) rfl ?_
        refine xg_bV h (fun hi11 hl11 r11 e10 h => ?_)
        refine x_callV (pc' := 48) (S := []) (As := [.ref 113, .ref 114, .int (0 : Int32)]) (b' := (0, 0, 0)) dX12_copies_45 l_X12_248 m_X12_copy rfl rfl (show 90 < 122 by decide) rfl (Nat.le_of_ble_eq_true rfl) (Nat.le_of_ble_eq_true rfl) (Nat.le_of_ble_eq_true rfl) (Nat.le_of_ble_eq_true rfl) (r_X12_copy _ _ _ _ _ _ _ e10) rfl ?_
        refine x_aload_n (pc' := 49) dX12_copies_48 rfl rfl ?_
        refine xg_bV h (fun hi13 hl13 r13 e12 h => ?_)
        refine x_callV (pc' := 52) (S := []) (As := []) (b' := (0, 0, 0)) dX12_copies_49 l_X12_252 m_X12_know rfl rfl (show 90 < 122 by decide) rfl (Nat.le_of_ble_eq_true rfl) (Nat.le_of_ble_eq_true rfl) (Nat.le_of_ble_eq_true rfl) (Nat.le_of_ble_eq_true rfl) (r_X12_know _ _ _ _ e12) rfl ?_
        refine x_aload_n (pc' := 53) dX12_copies_52 rfl rfl ?_
        refine x_iload_n (pc' := 54) dX12_copies_53 rfl rfl ?_
        refine x_iload_n (pc' := 55) dX12_copies_54 rfl rfl ?_
        refine xg_bI h (fun w15 hi15 hl15 r15 e14 h => ?_)
        refine x_callV (pc' := 58) (S := []) (As := [.int v1, .int v2]) (b' := (0, 0, 0)) dX12_copies_55 l_X12_284 m_X12_lesser rfl rfl (show 90 < 122 by decide) rfl (Nat.le_of_ble_eq_true rfl) (Nat.le_of_ble_eq_true rfl) (Nat.le_of_ble_eq_true rfl) (Nat.le_of_ble_eq_true rfl) (r_X12_lesser _ _ _ _ _ _ e14) rfl ?_
        refine x_istore (pc' := 60) (L' := [some (.ref 90), some (.int v1), some (.int v2), some (.int v3), some (.int w15), none, none, none]) dX12_copies_58 (Nat.le_of_ble_eq_true rfl) rfl rfl ?_
        refine x_iload_n (pc' := 61) dX12_copies_60 rfl rfl ?_
        refine x_iconst (pc' := 62) (x := 2) dX12_copies_61 (by decide) rfl ?_
        refine xg_ite h (fun g16 h => ?_) (fun g16 h => ?_)
        · refine x_icmp_ne (tgt := 74) (pc' := 65) dX12_copies_62 (by decide) rfl (fun hn => absurd g16 hn) (fun _ => ?_)
          refine x_aload_n (pc' := 66) dX12_copies_65 rfl rfl ?_
          refine x_iload_n (pc' := 67) dX12_copies_66 rfl rfl ?_
          refine x_iload_n (pc' := 68) dX12_copies_67 rfl rfl ?_
          refine x_iload (pc' := 70) dX12_copies_68 rfl rfl ?_
          refine xg_bI h (fun w18 hi18 hl18 r18 e17 h => ?_)
          refine x_callV (pc' := 73) (S := []) (As := [.int v1, .int v2, .int w15]) (b' := (6, 0, 0)) dX12_copies_70 l_X12_287 m_X12_copiesAll rfl rfl (show 90 < 122 by decide) rfl (Nat.le_of_ble_eq_true rfl) (Nat.le_of_ble_eq_true rfl) (Nat.le_of_ble_eq_true rfl) (Nat.le_of_ble_eq_true rfl) (r_X12_copiesAll _ _ _ _ _ _ _ e17) rfl ?_
          obtain rfl := Option.some.inj h
          exact x_iret dX12_copies_73 rfl rfl (Nat.le_of_ble_eq_true rfl) rfl
        · refine x_icmp_ne (tgt := 74) (pc' := 65) dX12_copies_62 (by decide) rfl (fun _ => ?_) (fun hn => absurd hn g16)
          refine x_iconst (pc' := 75) (x := 0) dX12_copies_74 (by decide) rfl ?_
          refine x_istore (pc' := 77) (L' := [some (.ref 90), some (.int v1), some (.int v2), some (.int v3), some (.int w15), some (.int (0 : Int32)), none, none]) dX12_copies_75 (Nat.le_of_ble_eq_true rfl) rfl rfl ?_
          refine x_iconst (pc' := 78) (x := 0) dX12_copies_77 (by decide) rfl ?_
          refine x_istore (pc' := 80) (L' := [some (.ref 90), some (.int v1), some (.int v2), some (.int v3), some (.int w15), some (.int (0 : Int32)), some (.int (0 : Int32)), none]) dX12_copies_78 (Nat.le_of_ble_eq_true rfl) rfl rfl ?_
          exact r_X12_copies_80 1000000 _ _ _ _ _ _ _ _ _ _ _ h
def F_X12_copyBack_3 : Nat → Nat → Nat → Int32 → Int32 → Int32 → (Nat → Nat → Int32) → (Nat → Nat → Int64) → xRr → Option (xSt)
  | 0, _, _, _, _, _, _, _, _ => none
  | n + 1, v1, v2, v3, v4, v5, hi, hl, r => if v4 ≤ v5 then some (hi, hl, r) else if xokA v1 0 (v3 + v5) = true then if xok v5 72 = true then if xokA v2 1 (v3 + v5) = true then (F_X12_copyBack_3 n) v1 v2 v3 v4 (v5 + (1)) (xu hi 93 (Int32.toNatClampNeg v5) (hi v1 (Int32.toNatClampNeg (v3 + v5)))) (xu hl 94 (Int32.toNatClampNeg v5) (hl v2 (Int32.toNatClampNeg (v3 + v5)))) r else none else none else none
set_option maxRecDepth 20000 in
set_option maxHeartbeats 2000000 in
theorem r_X12_copyBack_3 : ∀ (n : Nat) (v1 : Nat) (v2 : Nat) (v3 : Int32) (v4 : Int32) (v5 : Int32) (hi : Nat → Nat → Int32) (hl : Nat → Nat → Int64) (r : xRr) (o : xSt), F_X12_copyBack_3 n v1 v2 v3 v4 v5 hi hl r = some o → xR (RX12, cX12_copyBack, 6, false, 0) (0, 0, 0) z 0 0 3 [some (.ref 90), some (.ref v1), some (.ref v2), some (.int v3), some (.int v4), some (.int v5)] [] (xhp hi hl r) (xoV o) := by
  intro n
  induction n with
  | zero =>
    intro v1 v2 v3 v4 v5 hi hl r o h
    have h : none = some o := h
    cases h
  | succ n ih =>
    intro v1 v2 v3 v4 v5 hi hl r o h
    refine x_iload (pc' := 5) dX12_copyBack_3 rfl rfl ?_
    refine x_iload (pc' := 7) dX12_copyBack_5 rfl rfl ?_
    refine xg_ite h (fun g1 h => ?_) (fun g1 h => ?_)
    · refine x_icmp_ge (tgt := 42) (pc' := 10) dX12_copyBack_7 (by decide) rfl (fun _ => ?_) (fun hn => absurd g1 hn)
      obtain rfl := Option.some.inj h
      exact x_vret dX12_copyBack_42 rfl rfl (Nat.le_of_ble_eq_true rfl) rfl
    · refine x_icmp_ge (tgt := 42) (pc' := 10) dX12_copyBack_7 (by decide) rfl (fun hn => absurd hn g1) (fun _ => ?_)
      refine x_aload_n (pc' := 11) dX12_copyBack_10 rfl rfl ?_
      refine x_getr (pc' := 14) (t := 93) dX12_copyBack_11 f_X12_16 (by decide) rfl rfl rfl rfl ?_
      refine x_iload (pc' := 16) dX12_copyBack_14 rfl rfl ?_
      refine x_aload_n (pc' := 17) dX12_copyBack_16 rfl rfl ?_
      refine x_iload_n (pc' := 18) dX12_copyBack_17 rfl rfl ?_
      refine x_iload (pc' := 20) dX12_copyBack_18 rfl rfl ?_
      refine x_iadd (pc' := 21) dX12_copyBack_20 rfl ?_
      refine xg_if h (fun g2 h => ?_)
      refine x_iald (pc' := 22) dX12_copyBack_21 (xokA_lt g2) (xokA_sh g2) (xokA_in g2) rfl ?_
      refine xg_if h (fun g3 h => ?_)
      refine x_iast (pc' := 23) dX12_copyBack_22 (by decide) rfl (xok_in g3) rfl ?_
      refine x_aload_n (pc' := 24) dX12_copyBack_23 rfl rfl ?_
      refine x_getr (pc' := 27) (t := 94) dX12_copyBack_24 f_X12_19 (by decide) rfl rfl rfl rfl ?_
      refine x_iload (pc' := 29) dX12_copyBack_27 rfl rfl ?_
      refine x_aload_n (pc' := 30) dX12_copyBack_29 rfl rfl ?_
      refine x_iload_n (pc' := 31) dX12_copyBack_30 rfl rfl ?_
      refine x_iload (pc' := 33) dX12_copyBack_31 rfl rfl ?_
      refine x_iadd (pc' := 34) dX12_copyBack_33 rfl ?_
      refine xg_if h (fun g4 h => ?_)
      refine x_lald (pc' := 35) dX12_copyBack_34 (xokA_lt g4) (xokA_sh g4) (xokA_in g4) rfl ?_
      refine x_last (pc' := 36) dX12_copyBack_35 (by decide) rfl (xok_in g3) rfl ?_
      refine x_iinc (pc' := 39) (v := (v5 + (1))) (L' := [some (.ref 90), some (.ref v1), some (.ref v2), some (.int v3), some (.int v4), some (.int (v5 + (1)))]) dX12_copyBack_36 rfl rfl (Nat.le_of_ble_eq_true rfl) rfl rfl ?_
      refine x_goto (tgt := 3) dX12_copyBack_39 (by decide) ?_
      exact ih _ _ _ _ _ _ _ _ _ h
def F_X12_copyBack (v1 : Nat) (v2 : Nat) (v3 : Int32) (v4 : Int32) (hi : Nat → Nat → Int32) (hl : Nat → Nat → Int64) (r : xRr) : Option (xSt) := F_X12_copyBack_3 1000000 v1 v2 v3 v4 (0 : Int32) hi hl r
set_option maxRecDepth 20000 in
set_option maxHeartbeats 2000000 in
theorem r_X12_copyBack (v1 : Nat) (v2 : Nat) (v3 : Int32) (v4 : Int32) (hi : Nat → Nat → Int32) (hl : Nat → Nat → Int64) (r : xRr) (o : xSt) (h : F_X12_copyBack v1 v2 v3 v4 hi hl r = some o) : xM yX12_copyBack cX12_copyBack 6 0 (0, 0, 0) z [.ref 90, .ref v1, .ref v2, .int v3, .int v4] (xhp hi hl r) (xoV o) := by
  refine x_meth2 (C := RX12) (ini := false) (L := [some (.ref 90), some (.ref v1), some (.ref v2), some (.int v3), some (.int v4), none]) rfl (by decide) (fun h9 => by cases h9) (by decide) (Nat.le_of_ble_eq_true rfl) rfl ?_
  refine x_iconst (pc' := 1) (x := 0) dX12_copyBack_0 (by decide) rfl ?_
  refine x_istore (pc' := 3) (L' := [some (.ref 90), some (.ref v1), some (.ref v2), some (.int v3), some (.int v4), some (.int (0 : Int32))]) dX12_copyBack_1 (Nat.le_of_ble_eq_true rfl) rfl rfl ?_
  exact r_X12_copyBack_3 1000000 _ _ _ _ _ _ _ _ _ h
def F_X12_undo (hi : Nat → Nat → Int32) (hl : Nat → Nat → Int64) (r : xRr) : Option (Int32 × xSt) := if ((xu hi 90 0 (0 : Int32)) 90 15) = 0 then some (((-2) : Int32), (xu hi 90 0 (0 : Int32)), hl, r) else if xok ((xu (xu hi 90 0 (0 : Int32)) 90 15 (((xu hi 90 0 (0 : Int32)) 90 15) - (1 : Int32))) 90 15) 10 = true then xbV (F_X12_copyBack 102 103 ((72 : Int32) * ((xu (xu hi 90 0 (0 : Int32)) 90 15 (((xu hi 90 0 (0 : Int32)) 90 15) - (1 : Int32))) 90 15)) ((12 : Int32) * ((xu (xu hi 90 0 (0 : Int32)) 90 15 (((xu hi 90 0 (0 : Int32)) 90 15) - (1 : Int32))) 101 (Int32.toNatClampNeg ((xu (xu hi 90 0 (0 : Int32)) 90 15 (((xu hi 90 0 (0 : Int32)) 90 15) - (1 : Int32))) 90 15)))) (xu (xu hi 90 0 (0 : Int32)) 90 15 (((xu hi 90 0 (0 : Int32)) 90 15) - (1 : Int32))) hl r) (fun hi4 hl4 r4 => some ((hi4 90 15), hi4, hl4, r4)) else none
set_option maxRecDepth 20000 in
set_option maxHeartbeats 2000000 in
theorem r_X12_undo (hi : Nat → Nat → Int32) (hl : Nat → Nat → Int64) (r : xRr) (o : Int32 × xSt) (h : F_X12_undo hi hl r = some o) : xM yX12_undo cX12_undo 1 1 (1, 0, 0) z [.ref 90] (xhp hi hl r) (xoI o) := by
  refine x_meth2 (C := RX12) (ini := false) (L := [some (.ref 90)]) rfl (by decide) (fun h9 => by cases h9) (by decide) (Nat.le_of_ble_eq_true rfl) rfl ?_
  refine x_aload_n (pc' := 1) dX12_undo_0 rfl rfl ?_
  refine x_iconst (pc' := 2) (x := 0) dX12_undo_1 (by decide) rfl ?_
  refine x_puti (pc' := 5) dX12_undo_2 f_X12_109 (Or.inl rfl) (by decide) rfl rfl rfl ?_
  refine x_aload_n (pc' := 6) dX12_undo_5 rfl rfl ?_
  refine x_geti (pc' := 9) dX12_undo_6 f_X12_169 (by decide) rfl rfl rfl ?_
  refine xg_ite h (fun g1 h => ?_) (fun g1 h => ?_)
  · refine x_if_ne (tgt := 15) (pc' := 12) dX12_undo_9 (by decide) rfl (fun hn => absurd g1 hn) (fun _ => ?_)
    refine x_bipush (pc' := 14) (x := (-2)) dX12_undo_12 (by decide) rfl ?_
    obtain rfl := Option.some.inj h
    exact x_iret dX12_undo_14 rfl rfl (Nat.le_of_ble_eq_true rfl) rfl
  · refine x_if_ne (tgt := 15) (pc' := 12) dX12_undo_9 (by decide) rfl (fun _ => ?_) (fun hn => absurd hn g1)
    refine x_aload_n (pc' := 16) dX12_undo_15 rfl rfl ?_
    refine x_dup (pc' := 17) dX12_undo_16 rfl rfl ?_
    refine x_geti (pc' := 20) dX12_undo_17 f_X12_169 (by decide) rfl rfl rfl ?_
    refine x_iconst (pc' := 21) (x := 1) dX12_undo_20 (by decide) rfl ?_
    refine x_isub (pc' := 22) dX12_undo_21 rfl ?_
    refine x_puti (pc' := 25) dX12_undo_22 f_X12_169 (Or.inl rfl) (by decide) rfl rfl rfl ?_
    refine x_aload_n (pc' := 26) dX12_undo_25 rfl rfl ?_
    refine x_aload_n (pc' := 27) dX12_undo_26 rfl rfl ?_
    refine x_getr (pc' := 30) (t := 102) dX12_undo_27 f_X12_48 (by decide) rfl rfl rfl rfl ?_
    refine x_aload_n (pc' := 31) dX12_undo_30 rfl rfl ?_
    refine x_getr (pc' := 34) (t := 103) dX12_undo_31 f_X12_51 (by decide) rfl rfl rfl rfl ?_
    refine x_bipush (pc' := 36) (x := 72) dX12_undo_34 (by decide) rfl ?_
    refine x_aload_n (pc' := 37) dX12_undo_36 rfl rfl ?_
    refine x_geti (pc' := 40) dX12_undo_37 f_X12_169 (by decide) rfl rfl rfl ?_
    refine x_imul (pc' := 41) dX12_undo_40 rfl ?_
    refine x_bipush (pc' := 43) (x := 12) dX12_undo_41 (by decide) rfl ?_
    refine x_aload_n (pc' := 44) dX12_undo_43 rfl rfl ?_
    refine x_getr (pc' := 47) (t := 101) dX12_undo_44 f_X12_45 (by decide) rfl rfl rfl rfl ?_
    refine x_aload_n (pc' := 48) dX12_undo_47 rfl rfl ?_
    refine x_geti (pc' := 51) dX12_undo_48 f_X12_169 (by decide) rfl rfl rfl ?_
    refine xg_if h (fun g2 h => ?_)
    refine x_iald (pc' := 52) dX12_undo_51 (by decide) rfl (xok_in g2) rfl ?_
    refine x_imul (pc' := 53) dX12_undo_52 rfl ?_
    refine xg_bV h (fun hi4 hl4 r4 e3 h => ?_)
    refine x_callV (pc' := 56) (S := []) (As := [.ref 102, .ref 103, .int ((72 : Int32) * ((xu (xu hi 90 0 (0 : Int32)) 90 15 (((xu hi 90 0 (0 : Int32)) 90 15) - (1 : Int32))) 90 15)), .int ((12 : Int32) * ((xu (xu hi 90 0 (0 : Int32)) 90 15 (((xu hi 90 0 (0 : Int32)) 90 15) - (1 : Int32))) 101 (Int32.toNatClampNeg ((xu (xu hi 90 0 (0 : Int32)) 90 15 (((xu hi 90 0 (0 : Int32)) 90 15) - (1 : Int32))) 90 15))))]) (b' := (0, 0, 0)) dX12_undo_53 l_X12_290 m_X12_copyBack rfl rfl (show 90 < 122 by decide) rfl (Nat.le_of_ble_eq_true rfl) (Nat.le_of_ble_eq_true rfl) (Nat.le_of_ble_eq_true rfl) (Nat.le_of_ble_eq_true rfl) (r_X12_copyBack _ _ _ _ _ _ _ _ e3) rfl ?_
    refine x_aload_n (pc' := 57) dX12_undo_56 rfl rfl ?_
    refine x_geti (pc' := 60) dX12_undo_57 f_X12_169 (by decide) rfl rfl rfl ?_
    obtain rfl := Option.some.inj h
    exact x_iret dX12_undo_60 rfl rfl (Nat.le_of_ble_eq_true rfl) rfl
def F_X12_isLine_88 (hi : Nat → Nat → Int32) (hl : Nat → Nat → Int64) (r : xRr) : Option (Int32 × xSt) := some ((1 : Int32), hi, hl, r)
set_option maxRecDepth 20000 in
set_option maxHeartbeats 2000000 in
theorem r_X12_isLine_88 (d1 : Option Value) (d2 : Option Value) (d3 : Option Value) (d4 : Option Value) (d5 : Option Value) (hi : Nat → Nat → Int32) (hl : Nat → Nat → Int64) (r : xRr) (o : Int32 × xSt) (h : F_X12_isLine_88 hi hl r = some o) : xR (RX12, cX12_isLine, 6, false, 3) (2, 0, 0) z 0 0 88 [some (.ref 90), d1, d2, d3, d4, d5] [] (xhp hi hl r) (xoI o) := by
  refine x_iconst (pc' := 89) (x := 1) dX12_isLine_88 (by decide) rfl ?_
  refine x_goto (tgt := 93) dX12_isLine_89 (by decide) ?_
  obtain rfl := Option.some.inj h
  exact x_zret dX12_isLine_93 rfl (Or.inr rfl) rfl (Nat.le_of_ble_eq_true rfl) rfl
def F_X12_isLine (v1 : Int32) (v2 : Int32) (v3 : Int32) (v4 : Int32) (v5 : Int32) (hi : Nat → Nat → Int32) (hl : Nat → Nat → Int64) (r : xRr) : Option (Int32 × xSt) := if (5 : Int32) ≤ v1 then if v1 = (6 : Int32) then F_X12_isLine_88 hi hl r else if v1 = (5 : Int32) then xbP (F_X12_in (Int32.toInt64 v2) (0 : Int64) (9 : Int64)) (fun w5 => if w5 = 0 then some ((0 : Int32), hi, hl, r) else F_X12_isLine_88 hi hl r) else some ((0 : Int32), hi, hl, r) else xbP (F_X12_in (Int32.toInt64 v1) (0 : Int64) (4 : Int64)) (fun w8 => if w8 = 0 then some ((0 : Int32), hi, hl, r) else xbI (F_X12_isView v2 hi hl r) (fun w11 hi11 hl11 r11 => if w11 = 0 then some ((0 : Int32), hi11, hl11, r11) else xbI (F_X12_isView v4 hi11 hl11 r11) (fun w14 hi14 hl14 r14 => if w14 = 0 then some ((0 : Int32), hi14, hl14, r14) else xbP (F_X12_in (Int32.toInt64 v3) (0 : Int64) (13 : Int64)) (fun w17 => if w17 = 0 then some ((0 : Int32), hi14, hl14, r14) else xbP (F_X12_in (Int32.toInt64 v5) (0 : Int64) (13 : Int64)) (fun w20 => if w20 = 0 then some ((0 : Int32), hi14, hl14, r14) else some ((1 : Int32), hi14, hl14, r14))))))
set_option maxRecDepth 20000 in
set_option maxHeartbeats 2000000 in
theorem r_X12_isLine (v1 : Int32) (v2 : Int32) (v3 : Int32) (v4 : Int32) (v5 : Int32) (hi : Nat → Nat → Int32) (hl : Nat → Nat → Int64) (r : xRr) (o : Int32 × xSt) (h : F_X12_isLine v1 v2 v3 v4 v5 hi hl r = some o) : xM yX12_isLine cX12_isLine 6 3 (2, 0, 0) z [.ref 90, .int v1, .int v2, .int v3, .int v4, .int v5] (xhp hi hl r) (xoI o) := by
  refine x_meth2 (C := RX12) (ini := false) (L := [some (.ref 90), some (.int v1), some (.int v2), some (.int v3), some (.int v4), some (.int v5)]) rfl (by decide) (fun h9 => by cases h9) (by decide) (Nat.le_of_ble_eq_true rfl) rfl ?_
  refine x_iload_n (pc' := 1) dX12_isLine_0 rfl rfl ?_
  refine x_iconst (pc' := 2) (x := 5) dX12_isLine_1 (by decide) rfl ?_
  refine xg_ite h (fun g1 h => ?_) (fun g1 h => ?_)
  · refine x_icmp_ge (tgt := 65) (pc' := 5) dX12_isLine_2 (by decide) rfl (fun _ => ?_) (fun hn => absurd g1 hn)
    refine x_iload_n (pc' := 66) dX12_isLine_65 rfl rfl ?_
    refine x_bipush (pc' := 68) (x := 6) dX12_isLine_66 (by decide) rfl ?_
    refine xg_ite h (fun g2 h => ?_) (fun g2 h => ?_)
    · refine x_icmp_eq (tgt := 88) (pc' := 71) dX12_isLine_68 (by decide) rfl (fun _ => ?_) (fun hn => absurd g2 hn)
      exact r_X12_isLine_88 _ _ _ _ _ _ _ _ _ h
    · refine x_icmp_eq (tgt := 88) (pc' := 71) dX12_isLine_68 (by decide) rfl (fun hn => absurd hn g2) (fun _ => ?_)
      refine x_iload_n (pc' := 72) dX12_isLine_71 rfl rfl ?_
      refine x_iconst (pc' := 73) (x := 5) dX12_isLine_72 (by decide) rfl ?_
      refine xg_ite h (fun g3 h => ?_) (fun g3 h => ?_)
      · refine x_icmp_ne (tgt := 92) (pc' := 76) dX12_isLine_73 (by decide) rfl (fun hn => absurd g3 hn) (fun _ => ?_)
        refine x_iload_n (pc' := 77) dX12_isLine_76 rfl rfl ?_
        refine x_i2l (pc' := 78) dX12_isLine_77 rfl ?_
        refine x_lconst (pc' := 79) (x := 0) dX12_isLine_78 (by decide) rfl ?_
        refine x_ldc2 (pc' := 82) dX12_isLine_79 k_X12_233 rfl ?_
        refine xg_bP h (fun w5 e4 h => ?_)
        refine x_callS (pc' := 85) (S := []) (As := [.long (Int32.toInt64 v2), .long (0 : Int64), .long (9 : Int64)]) (b' := (0, 0, 0)) dX12_isLine_82 l_X12_118 m_X12_in rfl rfl (Nat.le_of_ble_eq_true rfl) (Nat.le_of_ble_eq_true rfl) (Nat.le_of_ble_eq_true rfl) (Nat.le_of_ble_eq_true rfl) (r_X12_in _ _ _ _ _ e4) rfl ?_
        refine xg_ite h (fun g6 h => ?_) (fun g6 h => ?_)
        · refine x_if_eq (tgt := 92) (pc' := 88) dX12_isLine_85 (by decide) rfl (fun _ => ?_) (fun hn => absurd g6 hn)
          refine x_iconst (pc' := 93) (x := 0) dX12_isLine_92 (by decide) rfl ?_
          obtain rfl := Option.some.inj h
          exact x_zret dX12_isLine_93 rfl (Or.inl rfl) rfl (Nat.le_of_ble_eq_true rfl) rfl
        · refine x_if_eq (tgt := 92) (pc' := 88) dX12_isLine_85 (by decide) rfl (fun hn => absurd hn g6) (fun _ => ?_)
          exact r_X12_isLine_88 _ _ _ _ _ _ _ _ _ h
      · refine x_icmp_ne (tgt := 92) (pc' := 76) dX12_isLine_73 (by decide) rfl (fun _ => ?_) (fun hn => absurd hn g3)
        refine x_iconst (pc' := 93) (x := 0) dX12_isLine_92 (by decide) rfl ?_
        obtain rfl := Option.some.inj h
        exact x_zret dX12_isLine_93 rfl (Or.inl rfl) rfl (Nat.le_of_ble_eq_true rfl) rfl
  · refine x_icmp_ge (tgt := 65) (pc' := 5) dX12_isLine_2 (by decide) rfl (fun hn => absurd hn g1) (fun _ => ?_)
    refine x_iload_n (pc' := 6) dX12_isLine_5 rfl rfl ?_
    refine x_i2l (pc' := 7) dX12_isLine_6 rfl ?_
    refine x_lconst (pc' := 8) (x := 0) dX12_isLine_7 (by decide) rfl ?_
    refine x_ldc2 (pc' := 11) dX12_isLine_8 k_X12_275 rfl ?_
    refine xg_bP h (fun w8 e7 h => ?_)
    refine x_callS (pc' := 14) (S := []) (As := [.long (Int32.toInt64 v1), .long (0 : Int64), .long (4 : Int64)]) (b' := (0, 0, 0)) dX12_isLine_11 l_X12_118 m_X12_in rfl rfl (Nat.le_of_ble_eq_true rfl) (Nat.le_of_ble_eq_true rfl) (Nat.le_of_ble_eq_true rfl) (Nat.le_of_ble_eq_true rfl) (r_X12_in _ _ _ _ _ e7) rfl ?_
    refine xg_ite h (fun g9 h => ?_) (fun g9 h => ?_)
    · refine x_if_eq (tgt := 63) (pc' := 17) dX12_isLine_14 (by decide) rfl (fun _ => ?_) (fun hn => absurd g9 hn)
      refine x_iconst (pc' := 64) (x := 0) dX12_isLine_63 (by decide) rfl ?_
      obtain rfl := Option.some.inj h
      exact x_zret dX12_isLine_64 rfl (Or.inl rfl) rfl (Nat.le_of_ble_eq_true rfl) rfl
    · refine x_if_eq (tgt := 63) (pc' := 17) dX12_isLine_14 (by decide) rfl (fun hn => absurd hn g9) (fun _ => ?_)
      refine x_aload_n (pc' := 18) dX12_isLine_17 rfl rfl ?_
      refine x_iload_n (pc' := 19) dX12_isLine_18 rfl rfl ?_
      refine xg_bI h (fun w11 hi11 hl11 r11 e10 h => ?_)
      refine x_callV (pc' := 22) (S := []) (As := [.int v2]) (b' := (1, 0, 0)) dX12_isLine_19 l_X12_152 m_X12_isView rfl rfl (show 90 < 122 by decide) rfl (Nat.le_of_ble_eq_true rfl) (Nat.le_of_ble_eq_true rfl) (Nat.le_of_ble_eq_true rfl) (Nat.le_of_ble_eq_true rfl) (r_X12_isView _ _ _ _ _ e10) rfl ?_
      refine xg_ite h (fun g12 h => ?_) (fun g12 h => ?_)
      · refine x_if_eq (tgt := 63) (pc' := 25) dX12_isLine_22 (by decide) rfl (fun _ => ?_) (fun hn => absurd g12 hn)
        refine x_iconst (pc' := 64) (x := 0) dX12_isLine_63 (by decide) rfl ?_
        obtain rfl := Option.some.inj h
        exact x_zret dX12_isLine_64 rfl (Or.inl rfl) rfl (Nat.le_of_ble_eq_true rfl) rfl
      · refine x_if_eq (tgt := 63) (pc' := 25) dX12_isLine_22 (by decide) rfl (fun hn => absurd hn g12) (fun _ => ?_)
        refine x_aload_n (pc' := 26) dX12_isLine_25 rfl rfl ?_
        refine x_iload (pc' := 28) dX12_isLine_26 rfl rfl ?_
        refine xg_bI h (fun w14 hi14 hl14 r14 e13 h => ?_)
        refine x_callV (pc' := 31) (S := []) (As := [.int v4]) (b' := (1, 0, 0)) dX12_isLine_28 l_X12_152 m_X12_isView rfl rfl (show 90 < 122 by decide) rfl (Nat.le_of_ble_eq_true rfl) (Nat.le_of_ble_eq_true rfl) (Nat.le_of_ble_eq_true rfl) (Nat.le_of_ble_eq_true rfl) (r_X12_isView _ _ _ _ _ e13) rfl ?_
        refine xg_ite h (fun g15 h => ?_) (fun g15 h => ?_)
        · refine x_if_eq (tgt := 63) (pc' := 34) dX12_isLine_31 (by decide) rfl (fun _ => ?_) (fun hn => absurd g15 hn)
          refine x_iconst (pc' := 64) (x := 0) dX12_isLine_63 (by decide) rfl ?_
          obtain rfl := Option.some.inj h
          exact x_zret dX12_isLine_64 rfl (Or.inl rfl) rfl (Nat.le_of_ble_eq_true rfl) rfl
        · refine x_if_eq (tgt := 63) (pc' := 34) dX12_isLine_31 (by decide) rfl (fun hn => absurd hn g15) (fun _ => ?_)
          refine x_iload_n (pc' := 35) dX12_isLine_34 rfl rfl ?_
          refine x_i2l (pc' := 36) dX12_isLine_35 rfl ?_
          refine x_lconst (pc' := 37) (x := 0) dX12_isLine_36 (by decide) rfl ?_
          refine x_ldc2 (pc' := 40) dX12_isLine_37 k_X12_294 rfl ?_
          refine xg_bP h (fun w17 e16 h => ?_)
          refine x_callS (pc' := 43) (S := []) (As := [.long (Int32.toInt64 v3), .long (0 : Int64), .long (13 : Int64)]) (b' := (0, 0, 0)) dX12_isLine_40 l_X12_118 m_X12_in rfl rfl (Nat.le_of_ble_eq_true rfl) (Nat.le_of_ble_eq_true rfl) (Nat.le_of_ble_eq_true rfl) (Nat.le_of_ble_eq_true rfl) (r_X12_in _ _ _ _ _ e16) rfl ?_
          refine xg_ite h (fun g18 h => ?_) (fun g18 h => ?_)
          · refine x_if_eq (tgt := 63) (pc' := 46) dX12_isLine_43 (by decide) rfl (fun _ => ?_) (fun hn => absurd g18 hn)
            refine x_iconst (pc' := 64) (x := 0) dX12_isLine_63 (by decide) rfl ?_
            obtain rfl := Option.some.inj h
            exact x_zret dX12_isLine_64 rfl (Or.inl rfl) rfl (Nat.le_of_ble_eq_true rfl) rfl
          · refine x_if_eq (tgt := 63) (pc' := 46) dX12_isLine_43 (by decide) rfl (fun hn => absurd hn g18) (fun _ => ?_)
            refine x_iload (pc' := 48) dX12_isLine_46 rfl rfl ?_
            refine x_i2l (pc' := 49) dX12_isLine_48 rfl ?_
            refine x_lconst (pc' := 50) (x := 0) dX12_isLine_49 (by decide) rfl ?_
            refine x_ldc2 (pc' := 53) dX12_isLine_50 k_X12_294 rfl ?_
            refine xg_bP h (fun w20 e19 h => ?_)
            refine x_callS (pc' := 56) (S := []) (As := [.long (Int32.toInt64 v5), .long (0 : Int64), .long (13 : Int64)]) (b' := (0, 0, 0)) dX12_isLine_53 l_X12_118 m_X12_in rfl rfl (Nat.le_of_ble_eq_true rfl) (Nat.le_of_ble_eq_true rfl) (Nat.le_of_ble_eq_true rfl) (Nat.le_of_ble_eq_true rfl) (r_X12_in _ _ _ _ _ e19) rfl ?_
            refine xg_ite h (fun g21 h => ?_) (fun g21 h => ?_)
            · refine x_if_eq (tgt := 63) (pc' := 59) dX12_isLine_56 (by decide) rfl (fun _ => ?_) (fun hn => absurd g21 hn)
              refine x_iconst (pc' := 64) (x := 0) dX12_isLine_63 (by decide) rfl ?_
              obtain rfl := Option.some.inj h
              exact x_zret dX12_isLine_64 rfl (Or.inl rfl) rfl (Nat.le_of_ble_eq_true rfl) rfl
            · refine x_if_eq (tgt := 63) (pc' := 59) dX12_isLine_56 (by decide) rfl (fun hn => absurd hn g21) (fun _ => ?_)
              refine x_iconst (pc' := 60) (x := 1) dX12_isLine_59 (by decide) rfl ?_
              refine x_goto (tgt := 64) dX12_isLine_60 (by decide) ?_
              obtain rfl := Option.some.inj h
              exact x_zret dX12_isLine_64 rfl (Or.inr rfl) rfl (Nat.le_of_ble_eq_true rfl) rfl
def F_X12_open_47 (K4 : Int32 → Int32 → (Nat → Nat → Int32) → (Nat → Nat → Int64) → xRr → Option (Int32 × xSt)) (v2 : Int32) (s0 : Int32) (s1 : Int32) (hi : Nat → Nat → Int32) (hl : Nat → Nat → Int64) (r : xRr) : Option (Int32 × xSt) := K4 (s0 + s1) (v2 + (1)) hi hl r
set_option maxRecDepth 20000 in
set_option maxHeartbeats 2000000 in
theorem r_X12_open_47 (K4 : Int32 → Int32 → (Nat → Nat → Int32) → (Nat → Nat → Int64) → xRr → Option (Int32 × xSt)) (hK4 : ∀ (v1 : Int32) (v2 : Int32) (hi : Nat → Nat → Int32) (hl : Nat → Nat → Int64) (r : xRr) (o : Int32 × xSt), K4 v1 v2 hi hl r = some o → xR (RX12, cX12_open, 3, false, 1) (0, 0, 0) z 0 0 4 [some (.ref 90), some (.int v1), some (.int v2)] [] (xhp hi hl r) (xoI o)) (v2 : Int32) (s0 : Int32) (s1 : Int32) (d1 : Option Value) (hi : Nat → Nat → Int32) (hl : Nat → Nat → Int64) (r : xRr) (o : Int32 × xSt) (h : F_X12_open_47 K4 v2 s0 s1 hi hl r = some o) : xR (RX12, cX12_open, 3, false, 1) (0, 0, 0) z 0 0 47 [some (.ref 90), d1, some (.int v2)] [.int s1, .int s0] (xhp hi hl r) (xoI o) := by
  refine x_iadd (pc' := 48) dX12_open_47 rfl ?_
  refine x_istore_n (pc' := 49) (L' := [some (.ref 90), some (.int (s0 + s1)), some (.int v2)]) dX12_open_48 (Nat.le_of_ble_eq_true rfl) rfl rfl ?_
  refine x_iinc (pc' := 52) (v := (v2 + (1))) (L' := [some (.ref 90), some (.int (s0 + s1)), some (.int (v2 + (1)))]) dX12_open_49 rfl rfl (Nat.le_of_ble_eq_true rfl) rfl rfl ?_
  refine x_goto (tgt := 4) dX12_open_52 (by decide) ?_
  exact hK4 _ _ _ _ _ _ h
def F_X12_open_4 : Nat → Int32 → Int32 → (Nat → Nat → Int32) → (Nat → Nat → Int64) → xRr → Option (Int32 × xSt)
  | 0, _, _, _, _, _ => none
  | n + 1, v1, v2, hi, hl, r => if (hi 90 22) ≤ v2 then some (v1, hi, hl, r) else if xok ((5 : Int32) * v2) 80 = true then if (hi 107 (Int32.toNatClampNeg ((5 : Int32) * v2))) = (5 : Int32) then F_X12_open_47 (F_X12_open_4 n) v2 v1 (1 : Int32) hi hl r else if (hi 107 (Int32.toNatClampNeg ((5 : Int32) * v2))) = (6 : Int32) then F_X12_open_47 (F_X12_open_4 n) v2 v1 ((-1) : Int32) hi hl r else F_X12_open_47 (F_X12_open_4 n) v2 v1 (0 : Int32) hi hl r else none
set_option maxRecDepth 20000 in
set_option maxHeartbeats 2000000 in
theorem r_X12_open_4 : ∀ (n : Nat) (v1 : Int32) (v2 : Int32) (hi : Nat → Nat → Int32) (hl : Nat → Nat → Int64) (r : xRr) (o : Int32 × xSt), F_X12_open_4 n v1 v2 hi hl r = some o → xR (RX12, cX12_open, 3, false, 1) (0, 0, 0) z 0 0 4 [some (.ref 90), some (.int v1), some (.int v2)] [] (xhp hi hl r) (xoI o) := by
  intro n
  induction n with
  | zero =>
    intro v1 v2 hi hl r o h
    have h : none = some o := h
    cases h
  | succ n ih =>
    intro v1 v2 hi hl r o h
    refine x_iload_n (pc' := 5) dX12_open_4 rfl rfl ?_
    refine x_aload_n (pc' := 6) dX12_open_5 rfl rfl ?_
    refine x_geti (pc' := 9) dX12_open_6 f_X12_172 (by decide) rfl rfl rfl ?_
    refine xg_ite h (fun g1 h => ?_) (fun g1 h => ?_)
    · refine x_icmp_ge (tgt := 55) (pc' := 12) dX12_open_9 (by decide) rfl (fun _ => ?_) (fun hn => absurd g1 hn)
      refine x_iload_n (pc' := 56) dX12_open_55 rfl rfl ?_
      obtain rfl := Option.some.inj h
      exact x_iret dX12_open_56 rfl rfl (Nat.le_of_ble_eq_true rfl) rfl
    · refine x_icmp_ge (tgt := 55) (pc' := 12) dX12_open_9 (by decide) rfl (fun hn => absurd hn g1) (fun _ => ?_)
      refine x_iload_n (pc' := 13) dX12_open_12 rfl rfl ?_
      refine x_aload_n (pc' := 14) dX12_open_13 rfl rfl ?_
      refine x_getr (pc' := 17) (t := 107) dX12_open_14 f_X12_63 (by decide) rfl rfl rfl rfl ?_
      refine x_iconst (pc' := 18) (x := 5) dX12_open_17 (by decide) rfl ?_
      refine x_iload_n (pc' := 19) dX12_open_18 rfl rfl ?_
      refine x_imul (pc' := 20) dX12_open_19 rfl ?_
      refine xg_if h (fun g2 h => ?_)
      refine x_iald (pc' := 21) dX12_open_20 (by decide) rfl (xok_in g2) rfl ?_
      refine x_iconst (pc' := 22) (x := 5) dX12_open_21 (by decide) rfl ?_
      refine xg_ite h (fun g3 h => ?_) (fun g3 h => ?_)
      · refine x_icmp_ne (tgt := 29) (pc' := 25) dX12_open_22 (by decide) rfl (fun hn => absurd g3 hn) (fun _ => ?_)
        refine x_iconst (pc' := 26) (x := 1) dX12_open_25 (by decide) rfl ?_
        refine x_goto (tgt := 47) dX12_open_26 (by decide) ?_
        exact r_X12_open_47 (F_X12_open_4 n) ih _ _ _ _ _ _ _ _ h
      · refine x_icmp_ne (tgt := 29) (pc' := 25) dX12_open_22 (by decide) rfl (fun _ => ?_) (fun hn => absurd hn g3)
        refine x_aload_n (pc' := 30) dX12_open_29 rfl rfl ?_
        refine x_getr (pc' := 33) (t := 107) dX12_open_30 f_X12_63 (by decide) rfl rfl rfl rfl ?_
        refine x_iconst (pc' := 34) (x := 5) dX12_open_33 (by decide) rfl ?_
        refine x_iload_n (pc' := 35) dX12_open_34 rfl rfl ?_
        refine x_imul (pc' := 36) dX12_open_35 rfl ?_
        refine x_iald (pc' := 37) dX12_open_36 (by decide) rfl (xok_in g2) rfl ?_
        refine x_bipush (pc' := 39) (x := 6) dX12_open_37 (by decide) rfl ?_
        refine xg_ite h (fun g4 h => ?_) (fun g4 h => ?_)
        · refine x_icmp_ne (tgt := 46) (pc' := 42) dX12_open_39 (by decide) rfl (fun hn => absurd g4 hn) (fun _ => ?_)
          refine x_iconst (pc' := 43) (x := (-1)) dX12_open_42 (by decide) rfl ?_
          refine x_goto (tgt := 47) dX12_open_43 (by decide) ?_
          exact r_X12_open_47 (F_X12_open_4 n) ih _ _ _ _ _ _ _ _ h
        · refine x_icmp_ne (tgt := 46) (pc' := 42) dX12_open_39 (by decide) rfl (fun _ => ?_) (fun hn => absurd hn g4)
          refine x_iconst (pc' := 47) (x := 0) dX12_open_46 (by decide) rfl ?_
          exact r_X12_open_47 (F_X12_open_4 n) ih _ _ _ _ _ _ _ _ h
def F_X12_open (hi : Nat → Nat → Int32) (hl : Nat → Nat → Int64) (r : xRr) : Option (Int32 × xSt) := F_X12_open_4 1000000 (0 : Int32) (0 : Int32) hi hl r
set_option maxRecDepth 20000 in
set_option maxHeartbeats 2000000 in
theorem r_X12_open (hi : Nat → Nat → Int32) (hl : Nat → Nat → Int64) (r : xRr) (o : Int32 × xSt) (h : F_X12_open hi hl r = some o) : xM yX12_open cX12_open 3 1 (0, 0, 0) z [.ref 90] (xhp hi hl r) (xoI o) := by
  refine x_meth2 (C := RX12) (ini := false) (L := [some (.ref 90), none, none]) rfl (by decide) (fun h9 => by cases h9) (by decide) (Nat.le_of_ble_eq_true rfl) rfl ?_
  refine x_iconst (pc' := 1) (x := 0) dX12_open_0 (by decide) rfl ?_
  refine x_istore_n (pc' := 2) (L' := [some (.ref 90), some (.int (0 : Int32)), none]) dX12_open_1 (Nat.le_of_ble_eq_true rfl) rfl rfl ?_
  refine x_iconst (pc' := 3) (x := 0) dX12_open_2 (by decide) rfl ?_
  refine x_istore_n (pc' := 4) (L' := [some (.ref 90), some (.int (0 : Int32)), some (.int (0 : Int32))]) dX12_open_3 (Nat.le_of_ble_eq_true rfl) rfl rfl ?_
  exact r_X12_open_4 1000000 _ _ _ _ _ _ h
end
