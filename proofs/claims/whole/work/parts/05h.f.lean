section
variable {z : xZ}
def F_X12_joins_137 (K83 : Int32 → Int32 → (Nat → Nat → Int32) → (Nat → Nat → Int64) → xRr → Option (Int32 × xSt)) (K101 : Int32 → Int32 → Int32 → Int32 → (Nat → Nat → Int32) → (Nat → Nat → Int64) → xRr → Option (Int32 × xSt)) (v3 : Int32) (v4 : Int32) (v6 : Int32) (s0 : Int32) (hi : Nat → Nat → Int32) (hl : Nat → Nat → Int64) (r : xRr) : Option (Int32 × xSt) := K101 v3 v4 s0 (v6 + (1)) hi hl r
set_option maxRecDepth 20000 in
set_option maxHeartbeats 2000000 in
theorem r_X12_joins_137 (K83 : Int32 → Int32 → (Nat → Nat → Int32) → (Nat → Nat → Int64) → xRr → Option (Int32 × xSt)) (hK83 : ∀ (v3 : Int32) (v4 : Int32) (d1 : Option Value) (d2 : Option Value) (d5 : Option Value) (d6 : Option Value) (hi : Nat → Nat → Int32) (hl : Nat → Nat → Int64) (r : xRr) (o : Int32 × xSt), K83 v3 v4 hi hl r = some o → xR (RX12, cX12_joins, 7, false, 1) (2, 0, 0) z 0 0 83 [some (.ref 90), d1, d2, some (.int v3), some (.int v4), d5, d6] [] (xhp hi hl r) (xoI o)) (K101 : Int32 → Int32 → Int32 → Int32 → (Nat → Nat → Int32) → (Nat → Nat → Int64) → xRr → Option (Int32 × xSt)) (hK101 : ∀ (v3 : Int32) (v4 : Int32) (v5 : Int32) (v6 : Int32) (d1 : Option Value) (d2 : Option Value) (hi : Nat → Nat → Int32) (hl : Nat → Nat → Int64) (r : xRr) (o : Int32 × xSt), K101 v3 v4 v5 v6 hi hl r = some o → xR (RX12, cX12_joins, 7, false, 1) (2, 0, 0) z 0 0 101 [some (.ref 90), d1, d2, some (.int v3), some (.int v4), some (.int v5), some (.int v6)] [] (xhp hi hl r) (xoI o)) (v3 : Int32) (v4 : Int32) (v6 : Int32) (s0 : Int32) (d1 : Option Value) (d2 : Option Value) (d5 : Option Value) (hi : Nat → Nat → Int32) (hl : Nat → Nat → Int64) (r : xRr) (o : Int32 × xSt) (h : F_X12_joins_137 K83 K101 v3 v4 v6 s0 hi hl r = some o) : xR (RX12, cX12_joins, 7, false, 1) (2, 0, 0) z 0 0 137 [some (.ref 90), d1, d2, some (.int v3), some (.int v4), d5, some (.int v6)] [.int s0] (xhp hi hl r) (xoI o) := by
  refine x_istore (pc' := 139) (L' := [some (.ref 90), d1, d2, some (.int v3), some (.int v4), some (.int s0), some (.int v6)]) dX12_joins_137 (Nat.le_of_ble_eq_true rfl) rfl rfl ?_
  refine x_iinc (pc' := 142) (v := (v6 + (1))) (L' := [some (.ref 90), d1, d2, some (.int v3), some (.int v4), some (.int s0), some (.int (v6 + (1)))]) dX12_joins_139 rfl rfl (Nat.le_of_ble_eq_true rfl) rfl rfl ?_
  refine x_goto (tgt := 101) dX12_joins_142 (by decide) ?_
  exact hK101 _ _ _ _ _ _ _ _ _ _ h
def F_X12_joins_132 (K83 : Int32 → Int32 → (Nat → Nat → Int32) → (Nat → Nat → Int64) → xRr → Option (Int32 × xSt)) (K101 : Int32 → Int32 → Int32 → Int32 → (Nat → Nat → Int32) → (Nat → Nat → Int64) → xRr → Option (Int32 × xSt)) (v3 : Int32) (v4 : Int32) (v6 : Int32) (hi : Nat → Nat → Int32) (hl : Nat → Nat → Int64) (r : xRr) : Option (Int32 × xSt) := F_X12_joins_137 K83 K101 v3 v4 v6 (1 : Int32) hi hl r
set_option maxRecDepth 20000 in
set_option maxHeartbeats 2000000 in
theorem r_X12_joins_132 (K83 : Int32 → Int32 → (Nat → Nat → Int32) → (Nat → Nat → Int64) → xRr → Option (Int32 × xSt)) (hK83 : ∀ (v3 : Int32) (v4 : Int32) (d1 : Option Value) (d2 : Option Value) (d5 : Option Value) (d6 : Option Value) (hi : Nat → Nat → Int32) (hl : Nat → Nat → Int64) (r : xRr) (o : Int32 × xSt), K83 v3 v4 hi hl r = some o → xR (RX12, cX12_joins, 7, false, 1) (2, 0, 0) z 0 0 83 [some (.ref 90), d1, d2, some (.int v3), some (.int v4), d5, d6] [] (xhp hi hl r) (xoI o)) (K101 : Int32 → Int32 → Int32 → Int32 → (Nat → Nat → Int32) → (Nat → Nat → Int64) → xRr → Option (Int32 × xSt)) (hK101 : ∀ (v3 : Int32) (v4 : Int32) (v5 : Int32) (v6 : Int32) (d1 : Option Value) (d2 : Option Value) (hi : Nat → Nat → Int32) (hl : Nat → Nat → Int64) (r : xRr) (o : Int32 × xSt), K101 v3 v4 v5 v6 hi hl r = some o → xR (RX12, cX12_joins, 7, false, 1) (2, 0, 0) z 0 0 101 [some (.ref 90), d1, d2, some (.int v3), some (.int v4), some (.int v5), some (.int v6)] [] (xhp hi hl r) (xoI o)) (v3 : Int32) (v4 : Int32) (v6 : Int32) (d1 : Option Value) (d2 : Option Value) (d5 : Option Value) (hi : Nat → Nat → Int32) (hl : Nat → Nat → Int64) (r : xRr) (o : Int32 × xSt) (h : F_X12_joins_132 K83 K101 v3 v4 v6 hi hl r = some o) : xR (RX12, cX12_joins, 7, false, 1) (2, 0, 0) z 0 0 132 [some (.ref 90), d1, d2, some (.int v3), some (.int v4), d5, some (.int v6)] [] (xhp hi hl r) (xoI o) := by
  refine x_iconst (pc' := 133) (x := 1) dX12_joins_132 (by decide) rfl ?_
  refine x_goto (tgt := 137) dX12_joins_133 (by decide) ?_
  exact r_X12_joins_137 K83 hK83 K101 hK101 _ _ _ _ _ _ _ _ _ _ _ h
def F_X12_joins_136 (K83 : Int32 → Int32 → (Nat → Nat → Int32) → (Nat → Nat → Int64) → xRr → Option (Int32 × xSt)) (K101 : Int32 → Int32 → Int32 → Int32 → (Nat → Nat → Int32) → (Nat → Nat → Int64) → xRr → Option (Int32 × xSt)) (v3 : Int32) (v4 : Int32) (v6 : Int32) (hi : Nat → Nat → Int32) (hl : Nat → Nat → Int64) (r : xRr) : Option (Int32 × xSt) := F_X12_joins_137 K83 K101 v3 v4 v6 (0 : Int32) hi hl r
set_option maxRecDepth 20000 in
set_option maxHeartbeats 2000000 in
theorem r_X12_joins_136 (K83 : Int32 → Int32 → (Nat → Nat → Int32) → (Nat → Nat → Int64) → xRr → Option (Int32 × xSt)) (hK83 : ∀ (v3 : Int32) (v4 : Int32) (d1 : Option Value) (d2 : Option Value) (d5 : Option Value) (d6 : Option Value) (hi : Nat → Nat → Int32) (hl : Nat → Nat → Int64) (r : xRr) (o : Int32 × xSt), K83 v3 v4 hi hl r = some o → xR (RX12, cX12_joins, 7, false, 1) (2, 0, 0) z 0 0 83 [some (.ref 90), d1, d2, some (.int v3), some (.int v4), d5, d6] [] (xhp hi hl r) (xoI o)) (K101 : Int32 → Int32 → Int32 → Int32 → (Nat → Nat → Int32) → (Nat → Nat → Int64) → xRr → Option (Int32 × xSt)) (hK101 : ∀ (v3 : Int32) (v4 : Int32) (v5 : Int32) (v6 : Int32) (d1 : Option Value) (d2 : Option Value) (hi : Nat → Nat → Int32) (hl : Nat → Nat → Int64) (r : xRr) (o : Int32 × xSt), K101 v3 v4 v5 v6 hi hl r = some o → xR (RX12, cX12_joins, 7, false, 1) (2, 0, 0) z 0 0 101 [some (.ref 90), d1, d2, some (.int v3), some (.int v4), some (.int v5), some (.int v6)] [] (xhp hi hl r) (xoI o)) (v3 : Int32) (v4 : Int32) (v6 : Int32) (d1 : Option Value) (d2 : Option Value) (d5 : Option Value) (hi : Nat → Nat → Int32) (hl : Nat → Nat → Int64) (r : xRr) (o : Int32 × xSt) (h : F_X12_joins_136 K83 K101 v3 v4 v6 hi hl r = some o) : xR (RX12, cX12_joins, 7, false, 1) (2, 0, 0) z 0 0 136 [some (.ref 90), d1, d2, some (.int v3), some (.int v4), d5, some (.int v6)] [] (xhp hi hl r) (xoI o) := by
  refine x_iconst (pc' := 137) (x := 0) dX12_joins_136 (by decide) rfl ?_
  exact r_X12_joins_137 K83 hK83 K101 hK101 _ _ _ _ _ _ _ _ _ _ _ h
def F_X12_joins_101 (K83 : Int32 → Int32 → (Nat → Nat → Int32) → (Nat → Nat → Int64) → xRr → Option (Int32 × xSt)) : Nat → Int32 → Int32 → Int32 → Int32 → (Nat → Nat → Int32) → (Nat → Nat → Int64) → xRr → Option (Int32 × xSt)
  | 0, _, _, _, _, _, _, _ => none
  | n + 1, v3, v4, v5, v6, hi, hl, r => if (8 : Int32) ≤ v6 then if v5 = 0 then K83 v3 (v4 + (1)) hi hl r else some (v4, hi, hl, r) else if v5 = 0 then F_X12_joins_136 K83 (F_X12_joins_101 K83 n) v3 v4 v6 hi hl r else xbP (F_X12_has v3 v6) (fun w5 => if w5 = 0 then F_X12_joins_132 K83 (F_X12_joins_101 K83 n) v3 v4 v6 hi hl r else xbP (F_X12_widens v4 v6) (fun w8 => if w8 = 0 then F_X12_joins_136 K83 (F_X12_joins_101 K83 n) v3 v4 v6 hi hl r else F_X12_joins_132 K83 (F_X12_joins_101 K83 n) v3 v4 v6 hi hl r))
set_option maxRecDepth 20000 in
set_option maxHeartbeats 2000000 in
theorem r_X12_joins_101 (K83 : Int32 → Int32 → (Nat → Nat → Int32) → (Nat → Nat → Int64) → xRr → Option (Int32 × xSt)) (hK83 : ∀ (v3 : Int32) (v4 : Int32) (d1 : Option Value) (d2 : Option Value) (d5 : Option Value) (d6 : Option Value) (hi : Nat → Nat → Int32) (hl : Nat → Nat → Int64) (r : xRr) (o : Int32 × xSt), K83 v3 v4 hi hl r = some o → xR (RX12, cX12_joins, 7, false, 1) (2, 0, 0) z 0 0 83 [some (.ref 90), d1, d2, some (.int v3), some (.int v4), d5, d6] [] (xhp hi hl r) (xoI o)) : ∀ (n : Nat) (v3 : Int32) (v4 : Int32) (v5 : Int32) (v6 : Int32) (d1 : Option Value) (d2 : Option Value) (hi : Nat → Nat → Int32) (hl : Nat → Nat → Int64) (r : xRr) (o : Int32 × xSt), F_X12_joins_101 K83 n v3 v4 v5 v6 hi hl r = some o → xR (RX12, cX12_joins, 7, false, 1) (2, 0, 0) z 0 0 101 [some (.ref 90), d1, d2, some (.int v3), some (.int v4), some (.int v5), some (.int v6)] [] (xhp hi hl r) (xoI o) := by
  intro n
  induction n with
  | zero =>
    intro v3 v4 v5 v6 d1 d2 hi hl r o h
    have h : none = some o := h
    cases h
  | succ n ih =>
    intro v3 v4 v5 v6 d1 d2 hi hl r o h
    refine x_iload (pc' := 103) dX12_joins_101 rfl rfl ?_
    refine x_bipush (pc' := 105) (x := 8) dX12_joins_103 (by decide) rfl ?_
    refine xg_ite h (fun g1 h => ?_) (fun g1 h => ?_)
    · refine x_icmp_ge (tgt := 145) (pc' := 108) dX12_joins_105 (by decide) rfl (fun _ => ?_) (fun hn => absurd g1 hn)
      refine x_iload (pc' := 147) dX12_joins_145 rfl rfl ?_
      refine xg_ite h (fun g2 h => ?_) (fun g2 h => ?_)
      · refine x_if_eq (tgt := 153) (pc' := 150) dX12_joins_147 (by decide) rfl (fun _ => ?_) (fun hn => absurd g2 hn)
        refine x_iinc (pc' := 156) (v := (v4 + (1))) (L' := [some (.ref 90), d1, d2, some (.int v3), some (.int (v4 + (1))), some (.int v5), some (.int v6)]) dX12_joins_153 rfl rfl (Nat.le_of_ble_eq_true rfl) rfl rfl ?_
        refine x_goto (tgt := 83) dX12_joins_156 (by decide) ?_
        exact hK83 _ _ _ _ _ _ _ _ _ _ h
      · refine x_if_eq (tgt := 153) (pc' := 150) dX12_joins_147 (by decide) rfl (fun hn => absurd hn g2) (fun _ => ?_)
        refine x_iload (pc' := 152) dX12_joins_150 rfl rfl ?_
        obtain rfl := Option.some.inj h
        exact x_iret dX12_joins_152 rfl rfl (Nat.le_of_ble_eq_true rfl) rfl
    · refine x_icmp_ge (tgt := 145) (pc' := 108) dX12_joins_105 (by decide) rfl (fun hn => absurd hn g1) (fun _ => ?_)
      refine x_iload (pc' := 110) dX12_joins_108 rfl rfl ?_
      refine xg_ite h (fun g3 h => ?_) (fun g3 h => ?_)
      · refine x_if_eq (tgt := 136) (pc' := 113) dX12_joins_110 (by decide) rfl (fun _ => ?_) (fun hn => absurd g3 hn)
        exact r_X12_joins_136 K83 hK83 (F_X12_joins_101 K83 n) ih _ _ _ _ _ _ _ _ _ _ h
      · refine x_if_eq (tgt := 136) (pc' := 113) dX12_joins_110 (by decide) rfl (fun hn => absurd hn g3) (fun _ => ?_)
        refine x_iload_n (pc' := 114) dX12_joins_113 rfl rfl ?_
        refine x_iload (pc' := 116) dX12_joins_114 rfl rfl ?_
        refine xg_bP h (fun w5 e4 h => ?_)
        refine x_callS (pc' := 119) (S := []) (As := [.int v3, .int v6]) (b' := (0, 0, 0)) dX12_joins_116 l_X12_281 m_X12_has rfl rfl (Nat.le_of_ble_eq_true rfl) (Nat.le_of_ble_eq_true rfl) (Nat.le_of_ble_eq_true rfl) (Nat.le_of_ble_eq_true rfl) (r_X12_has _ _ _ _ e4) rfl ?_
        refine xg_ite h (fun g6 h => ?_) (fun g6 h => ?_)
        · refine x_if_eq (tgt := 132) (pc' := 122) dX12_joins_119 (by decide) rfl (fun _ => ?_) (fun hn => absurd g6 hn)
          exact r_X12_joins_132 K83 hK83 (F_X12_joins_101 K83 n) ih _ _ _ _ _ _ _ _ _ _ h
        · refine x_if_eq (tgt := 132) (pc' := 122) dX12_joins_119 (by decide) rfl (fun hn => absurd hn g6) (fun _ => ?_)
          refine x_iload (pc' := 124) dX12_joins_122 rfl rfl ?_
          refine x_iload (pc' := 126) dX12_joins_124 rfl rfl ?_
          refine xg_bP h (fun w8 e7 h => ?_)
          refine x_callS (pc' := 129) (S := []) (As := [.int v4, .int v6]) (b' := (0, 0, 0)) dX12_joins_126 l_X12_178 m_X12_widens rfl rfl (Nat.le_of_ble_eq_true rfl) (Nat.le_of_ble_eq_true rfl) (Nat.le_of_ble_eq_true rfl) (Nat.le_of_ble_eq_true rfl) (r_X12_widens _ _ _ _ e7) rfl ?_
          refine xg_ite h (fun g9 h => ?_) (fun g9 h => ?_)
          · refine x_if_eq (tgt := 136) (pc' := 132) dX12_joins_129 (by decide) rfl (fun _ => ?_) (fun hn => absurd g9 hn)
            exact r_X12_joins_136 K83 hK83 (F_X12_joins_101 K83 n) ih _ _ _ _ _ _ _ _ _ _ h
          · refine x_if_eq (tgt := 136) (pc' := 132) dX12_joins_129 (by decide) rfl (fun hn => absurd hn g9) (fun _ => ?_)
            exact r_X12_joins_132 K83 hK83 (F_X12_joins_101 K83 n) ih _ _ _ _ _ _ _ _ _ _ h
def F_X12_joins_83 : Nat → Int32 → Int32 → (Nat → Nat → Int32) → (Nat → Nat → Int64) → xRr → Option (Int32 × xSt)
  | 0, _, _, _, _, _ => none
  | n + 1, v3, v4, hi, hl, r => if (8 : Int32) ≤ v4 then some (((-20) : Int32), hi, hl, r) else xbP (F_X12_has v3 v4) (fun w3 => F_X12_joins_101 (F_X12_joins_83 n) 1000000 v3 v4 w3 (0 : Int32) hi hl r)
set_option maxRecDepth 20000 in
set_option maxHeartbeats 2000000 in
theorem r_X12_joins_83 : ∀ (n : Nat) (v3 : Int32) (v4 : Int32) (d1 : Option Value) (d2 : Option Value) (d5 : Option Value) (d6 : Option Value) (hi : Nat → Nat → Int32) (hl : Nat → Nat → Int64) (r : xRr) (o : Int32 × xSt), F_X12_joins_83 n v3 v4 hi hl r = some o → xR (RX12, cX12_joins, 7, false, 1) (2, 0, 0) z 0 0 83 [some (.ref 90), d1, d2, some (.int v3), some (.int v4), d5, d6] [] (xhp hi hl r) (xoI o) := by
  intro n
  induction n with
  | zero =>
    intro v3 v4 d1 d2 d5 d6 hi hl r o h
    have h : none = some o := h
    cases h
  | succ n ih =>
    intro v3 v4 d1 d2 d5 d6 hi hl r o h
    refine x_iload (pc' := 85) dX12_joins_83 rfl rfl ?_
    refine x_bipush (pc' := 87) (x := 8) dX12_joins_85 (by decide) rfl ?_
    refine xg_ite h (fun g1 h => ?_) (fun g1 h => ?_)
    · refine x_icmp_ge (tgt := 159) (pc' := 90) dX12_joins_87 (by decide) rfl (fun _ => ?_) (fun hn => absurd g1 hn)
      refine x_bipush (pc' := 161) (x := (-20)) dX12_joins_159 (by decide) rfl ?_
      obtain rfl := Option.some.inj h
      exact x_iret dX12_joins_161 rfl rfl (Nat.le_of_ble_eq_true rfl) rfl
    · refine x_icmp_ge (tgt := 159) (pc' := 90) dX12_joins_87 (by decide) rfl (fun hn => absurd hn g1) (fun _ => ?_)
      refine x_iload_n (pc' := 91) dX12_joins_90 rfl rfl ?_
      refine x_iload (pc' := 93) dX12_joins_91 rfl rfl ?_
      refine xg_bP h (fun w3 e2 h => ?_)
      refine x_callS (pc' := 96) (S := []) (As := [.int v3, .int v4]) (b' := (0, 0, 0)) dX12_joins_93 l_X12_281 m_X12_has rfl rfl (Nat.le_of_ble_eq_true rfl) (Nat.le_of_ble_eq_true rfl) (Nat.le_of_ble_eq_true rfl) (Nat.le_of_ble_eq_true rfl) (r_X12_has _ _ _ _ e2) rfl ?_
      refine x_istore (pc' := 98) (L' := [some (.ref 90), d1, d2, some (.int v3), some (.int v4), some (.int w3), d6]) dX12_joins_96 (Nat.le_of_ble_eq_true rfl) rfl rfl ?_
      refine x_iconst (pc' := 99) (x := 0) dX12_joins_98 (by decide) rfl ?_
      refine x_istore (pc' := 101) (L' := [some (.ref 90), d1, d2, some (.int v3), some (.int v4), some (.int w3), some (.int (0 : Int32))]) dX12_joins_99 (Nat.le_of_ble_eq_true rfl) rfl rfl ?_
      exact r_X12_joins_101 (F_X12_joins_83 n) ih 1000000 _ _ _ _ _ _ _ _ _ _ h
def F_X12_joins_72 (K28 : Int32 → Int32 → Int32 → Int32 → (Nat → Nat → Int32) → (Nat → Nat → Int64) → xRr → Option (Int32 × xSt)) (v1 : Int32) (v2 : Int32) (v4 : Int32) (s0 : Int32) (s1 : Int32) (hi : Nat → Nat → Int32) (hl : Nat → Nat → Int64) (r : xRr) : Option (Int32 × xSt) := K28 v1 v2 (s0 ||| s1) (v4 + (1)) hi hl r
set_option maxRecDepth 20000 in
set_option maxHeartbeats 2000000 in
theorem r_X12_joins_72 (K28 : Int32 → Int32 → Int32 → Int32 → (Nat → Nat → Int32) → (Nat → Nat → Int64) → xRr → Option (Int32 × xSt)) (hK28 : ∀ (v1 : Int32) (v2 : Int32) (v3 : Int32) (v4 : Int32) (d5 : Option Value) (d6 : Option Value) (hi : Nat → Nat → Int32) (hl : Nat → Nat → Int64) (r : xRr) (o : Int32 × xSt), K28 v1 v2 v3 v4 hi hl r = some o → xR (RX12, cX12_joins, 7, false, 1) (2, 0, 0) z 0 0 28 [some (.ref 90), some (.int v1), some (.int v2), some (.int v3), some (.int v4), d5, d6] [] (xhp hi hl r) (xoI o)) (v1 : Int32) (v2 : Int32) (v4 : Int32) (s0 : Int32) (s1 : Int32) (d3 : Option Value) (d5 : Option Value) (d6 : Option Value) (hi : Nat → Nat → Int32) (hl : Nat → Nat → Int64) (r : xRr) (o : Int32 × xSt) (h : F_X12_joins_72 K28 v1 v2 v4 s0 s1 hi hl r = some o) : xR (RX12, cX12_joins, 7, false, 1) (2, 0, 0) z 0 0 72 [some (.ref 90), some (.int v1), some (.int v2), d3, some (.int v4), d5, d6] [.int s1, .int s0] (xhp hi hl r) (xoI o) := by
  refine x_ior (pc' := 73) dX12_joins_72 rfl ?_
  refine x_istore_n (pc' := 74) (L' := [some (.ref 90), some (.int v1), some (.int v2), some (.int (s0 ||| s1)), some (.int v4), d5, d6]) dX12_joins_73 (Nat.le_of_ble_eq_true rfl) rfl rfl ?_
  refine x_iinc (pc' := 77) (v := (v4 + (1))) (L' := [some (.ref 90), some (.int v1), some (.int v2), some (.int (s0 ||| s1)), some (.int (v4 + (1))), d5, d6]) dX12_joins_74 rfl rfl (Nat.le_of_ble_eq_true rfl) rfl rfl ?_
  refine x_goto (tgt := 28) dX12_joins_77 (by decide) ?_
  exact hK28 _ _ _ _ _ _ _ _ _ _ h
def F_X12_joins_71 (K28 : Int32 → Int32 → Int32 → Int32 → (Nat → Nat → Int32) → (Nat → Nat → Int64) → xRr → Option (Int32 × xSt)) (v1 : Int32) (v2 : Int32) (v4 : Int32) (s0 : Int32) (hi : Nat → Nat → Int32) (hl : Nat → Nat → Int64) (r : xRr) : Option (Int32 × xSt) := F_X12_joins_72 K28 v1 v2 v4 s0 (0 : Int32) hi hl r
set_option maxRecDepth 20000 in
set_option maxHeartbeats 2000000 in
theorem r_X12_joins_71 (K28 : Int32 → Int32 → Int32 → Int32 → (Nat → Nat → Int32) → (Nat → Nat → Int64) → xRr → Option (Int32 × xSt)) (hK28 : ∀ (v1 : Int32) (v2 : Int32) (v3 : Int32) (v4 : Int32) (d5 : Option Value) (d6 : Option Value) (hi : Nat → Nat → Int32) (hl : Nat → Nat → Int64) (r : xRr) (o : Int32 × xSt), K28 v1 v2 v3 v4 hi hl r = some o → xR (RX12, cX12_joins, 7, false, 1) (2, 0, 0) z 0 0 28 [some (.ref 90), some (.int v1), some (.int v2), some (.int v3), some (.int v4), d5, d6] [] (xhp hi hl r) (xoI o)) (v1 : Int32) (v2 : Int32) (v4 : Int32) (s0 : Int32) (d3 : Option Value) (d5 : Option Value) (d6 : Option Value) (hi : Nat → Nat → Int32) (hl : Nat → Nat → Int64) (r : xRr) (o : Int32 × xSt) (h : F_X12_joins_71 K28 v1 v2 v4 s0 hi hl r = some o) : xR (RX12, cX12_joins, 7, false, 1) (2, 0, 0) z 0 0 71 [some (.ref 90), some (.int v1), some (.int v2), d3, some (.int v4), d5, d6] [.int s0] (xhp hi hl r) (xoI o) := by
  refine x_iconst (pc' := 72) (x := 0) dX12_joins_71 (by decide) rfl ?_
  exact r_X12_joins_72 K28 hK28 _ _ _ _ _ _ _ _ _ _ _ _ h
def F_X12_joins_28 : Nat → Int32 → Int32 → Int32 → Int32 → (Nat → Nat → Int32) → (Nat → Nat → Int64) → xRr → Option (Int32 × xSt)
  | 0, _, _, _, _, _, _, _ => none
  | n + 1, v1, v2, v3, v4, hi, hl, r => if (8 : Int32) ≤ v4 then F_X12_joins_83 1000000 v3 (0 : Int32) hi hl r else if xok v1 8 = true then xbP (F_X12_widens (hi 99 (Int32.toNatClampNeg v1)) v4) (fun w4 => if w4 = 0 then F_X12_joins_71 (F_X12_joins_28 n) v1 v2 v4 v3 hi hl r else if xok v2 8 = true then xbP (F_X12_widens (hi 99 (Int32.toNatClampNeg v2)) v4) (fun w8 => if w8 = 0 then F_X12_joins_71 (F_X12_joins_28 n) v1 v2 v4 v3 hi hl r else F_X12_joins_72 (F_X12_joins_28 n) v1 v2 v4 v3 ((1 : Int32) <<< (v4 &&& 31)) hi hl r) else none) else none
set_option maxRecDepth 20000 in
set_option maxHeartbeats 2000000 in
theorem r_X12_joins_28 : ∀ (n : Nat) (v1 : Int32) (v2 : Int32) (v3 : Int32) (v4 : Int32) (d5 : Option Value) (d6 : Option Value) (hi : Nat → Nat → Int32) (hl : Nat → Nat → Int64) (r : xRr) (o : Int32 × xSt), F_X12_joins_28 n v1 v2 v3 v4 hi hl r = some o → xR (RX12, cX12_joins, 7, false, 1) (2, 0, 0) z 0 0 28 [some (.ref 90), some (.int v1), some (.int v2), some (.int v3), some (.int v4), d5, d6] [] (xhp hi hl r) (xoI o) := by
  intro n
  induction n with
  | zero =>
    intro v1 v2 v3 v4 d5 d6 hi hl r o h
    have h : none = some o := h
    cases h
  | succ n ih =>
    intro v1 v2 v3 v4 d5 d6 hi hl r o h
    refine x_iload (pc' := 30) dX12_joins_28 rfl rfl ?_
    refine x_bipush (pc' := 32) (x := 8) dX12_joins_30 (by decide) rfl ?_
    refine xg_ite h (fun g1 h => ?_) (fun g1 h => ?_)
    · refine x_icmp_ge (tgt := 80) (pc' := 35) dX12_joins_32 (by decide) rfl (fun _ => ?_) (fun hn => absurd g1 hn)
      refine x_iconst (pc' := 81) (x := 0) dX12_joins_80 (by decide) rfl ?_
      refine x_istore (pc' := 83) (L' := [some (.ref 90), some (.int v1), some (.int v2), some (.int v3), some (.int (0 : Int32)), d5, d6]) dX12_joins_81 (Nat.le_of_ble_eq_true rfl) rfl rfl ?_
      exact r_X12_joins_83 1000000 _ _ _ _ _ _ _ _ _ _ h
    · refine x_icmp_ge (tgt := 80) (pc' := 35) dX12_joins_32 (by decide) rfl (fun hn => absurd hn g1) (fun _ => ?_)
      refine x_iload_n (pc' := 36) dX12_joins_35 rfl rfl ?_
      refine x_aload_n (pc' := 37) dX12_joins_36 rfl rfl ?_
      refine x_getr (pc' := 40) (t := 99) dX12_joins_37 f_X12_35 (by decide) rfl rfl rfl rfl ?_
      refine x_iload_n (pc' := 41) dX12_joins_40 rfl rfl ?_
      refine xg_if h (fun g2 h => ?_)
      refine x_iald (pc' := 42) dX12_joins_41 (by decide) rfl (xok_in g2) rfl ?_
      refine x_iload (pc' := 44) dX12_joins_42 rfl rfl ?_
      refine xg_bP h (fun w4 e3 h => ?_)
      refine x_callS (pc' := 47) (S := [.int v3]) (As := [.int (hi 99 (Int32.toNatClampNeg v1)), .int v4]) (b' := (0, 0, 0)) dX12_joins_44 l_X12_178 m_X12_widens rfl rfl (Nat.le_of_ble_eq_true rfl) (Nat.le_of_ble_eq_true rfl) (Nat.le_of_ble_eq_true rfl) (Nat.le_of_ble_eq_true rfl) (r_X12_widens _ _ _ _ e3) rfl ?_
      refine xg_ite h (fun g5 h => ?_) (fun g5 h => ?_)
      · refine x_if_eq (tgt := 71) (pc' := 50) dX12_joins_47 (by decide) rfl (fun _ => ?_) (fun hn => absurd g5 hn)
        exact r_X12_joins_71 (F_X12_joins_28 n) ih _ _ _ _ _ _ _ _ _ _ _ h
      · refine x_if_eq (tgt := 71) (pc' := 50) dX12_joins_47 (by decide) rfl (fun hn => absurd hn g5) (fun _ => ?_)
        refine x_aload_n (pc' := 51) dX12_joins_50 rfl rfl ?_
        refine x_getr (pc' := 54) (t := 99) dX12_joins_51 f_X12_35 (by decide) rfl rfl rfl rfl ?_
        refine x_iload_n (pc' := 55) dX12_joins_54 rfl rfl ?_
        refine xg_if h (fun g6 h => ?_)
        refine x_iald (pc' := 56) dX12_joins_55 (by decide) rfl (xok_in g6) rfl ?_
        refine x_iload (pc' := 58) dX12_joins_56 rfl rfl ?_
        refine xg_bP h (fun w8 e7 h => ?_)
        refine x_callS (pc' := 61) (S := [.int v3]) (As := [.int (hi 99 (Int32.toNatClampNeg v2)), .int v4]) (b' := (0, 0, 0)) dX12_joins_58 l_X12_178 m_X12_widens rfl rfl (Nat.le_of_ble_eq_true rfl) (Nat.le_of_ble_eq_true rfl) (Nat.le_of_ble_eq_true rfl) (Nat.le_of_ble_eq_true rfl) (r_X12_widens _ _ _ _ e7) rfl ?_
        refine xg_ite h (fun g9 h => ?_) (fun g9 h => ?_)
        · refine x_if_eq (tgt := 71) (pc' := 64) dX12_joins_61 (by decide) rfl (fun _ => ?_) (fun hn => absurd g9 hn)
          exact r_X12_joins_71 (F_X12_joins_28 n) ih _ _ _ _ _ _ _ _ _ _ _ h
        · refine x_if_eq (tgt := 71) (pc' := 64) dX12_joins_61 (by decide) rfl (fun hn => absurd hn g9) (fun _ => ?_)
          refine x_iconst (pc' := 65) (x := 1) dX12_joins_64 (by decide) rfl ?_
          refine x_iload (pc' := 67) dX12_joins_65 rfl rfl ?_
          refine x_ishl (pc' := 68) dX12_joins_67 rfl ?_
          refine x_goto (tgt := 72) dX12_joins_68 (by decide) ?_
          exact r_X12_joins_72 (F_X12_joins_28 n) ih _ _ _ _ _ _ _ _ _ _ _ _ h
def F_X12_joins (v1 : Int32) (v2 : Int32) (hi : Nat → Nat → Int32) (hl : Nat → Nat → Int64) (r : xRr) : Option (Int32 × xSt) := xbI (F_X12_isView v1 (xu hi 90 0 (0 : Int32)) hl r) (fun w2 hi2 hl2 r2 => if w2 = 0 then some (((-1) : Int32), hi2, hl2, r2) else xbI (F_X12_isView v2 hi2 hl2 r2) (fun w5 hi5 hl5 r5 => if w5 = 0 then some (((-1) : Int32), hi5, hl5, r5) else F_X12_joins_28 1000000 v1 v2 (0 : Int32) (0 : Int32) hi5 hl5 r5))
set_option maxRecDepth 20000 in
set_option maxHeartbeats 2000000 in
theorem r_X12_joins (v1 : Int32) (v2 : Int32) (hi : Nat → Nat → Int32) (hl : Nat → Nat → Int64) (r : xRr) (o : Int32 × xSt) (h : F_X12_joins v1 v2 hi hl r = some o) : xM yX12_joins cX12_joins 7 1 (2, 0, 0) z [.ref 90, .int v1, .int v2] (xhp hi hl r) (xoI o) := by
  refine x_meth2 (C := RX12) (ini := false) (L := [some (.ref 90), some (.int v1), some (.int v2), none, none, none, none]) rfl (by decide) (fun h9 => by cases h9) (by decide) (Nat.le_of_ble_eq_true rfl) rfl ?_
  refine x_aload_n (pc' := 1) dX12_joins_0 rfl rfl ?_
  refine x_iconst (pc' := 2) (x := 0) dX12_joins_1 (by decide) rfl ?_
  refine x_puti (pc' := 5) dX12_joins_2 f_X12_109 (Or.inl rfl) (by decide) rfl rfl rfl ?_
  refine x_aload_n (pc' := 6) dX12_joins_5 rfl rfl ?_
  refine x_iload_n (pc' := 7) dX12_joins_6 rfl rfl ?_
  refine xg_bI h (fun w2 hi2 hl2 r2 e1 h => ?_)
  refine x_callV (pc' := 10) (S := []) (As := [.int v1]) (b' := (1, 0, 0)) dX12_joins_7 l_X12_152 m_X12_isView rfl rfl (show 90 < 122 by decide) rfl (Nat.le_of_ble_eq_true rfl) (Nat.le_of_ble_eq_true rfl) (Nat.le_of_ble_eq_true rfl) (Nat.le_of_ble_eq_true rfl) (r_X12_isView _ _ _ _ _ e1) rfl ?_
  refine xg_ite h (fun g3 h => ?_) (fun g3 h => ?_)
  · refine x_if_eq (tgt := 21) (pc' := 13) dX12_joins_10 (by decide) rfl (fun _ => ?_) (fun hn => absurd g3 hn)
    refine x_iconst (pc' := 22) (x := (-1)) dX12_joins_21 (by decide) rfl ?_
    obtain rfl := Option.some.inj h
    exact x_iret dX12_joins_22 rfl rfl (Nat.le_of_ble_eq_true rfl) rfl
  · refine x_if_eq (tgt := 21) (pc' := 13) dX12_joins_10 (by decide) rfl (fun hn => absurd hn g3) (fun _ => ?_)
    refine x_aload_n (pc' := 14) dX12_joins_13 rfl rfl ?_
    refine x_iload_n (pc' := 15) dX12_joins_14 rfl rfl ?_
    refine xg_bI h (fun w5 hi5 hl5 r5 e4 h => ?_)
    refine x_callV (pc' := 18) (S := []) (As := [.int v2]) (b' := (1, 0, 0)) dX12_joins_15 l_X12_152 m_X12_isView rfl rfl (show 90 < 122 by decide) rfl (Nat.le_of_ble_eq_true rfl) (Nat.le_of_ble_eq_true rfl) (Nat.le_of_ble_eq_true rfl) (Nat.le_of_ble_eq_true rfl) (r_X12_isView _ _ _ _ _ e4) rfl ?_
    refine xg_ite h (fun g6 h => ?_) (fun g6 h => ?_)
    · refine x_if_ne (tgt := 23) (pc' := 21) dX12_joins_18 (by decide) rfl (fun hn => absurd g6 hn) (fun _ => ?_)
      refine x_iconst (pc' := 22) (x := (-1)) dX12_joins_21 (by decide) rfl ?_
      obtain rfl := Option.some.inj h
      exact x_iret dX12_joins_22 rfl rfl (Nat.le_of_ble_eq_true rfl) rfl
    · refine x_if_ne (tgt := 23) (pc' := 21) dX12_joins_18 (by decide) rfl (fun _ => ?_) (fun hn => absurd hn g6)
      refine x_iconst (pc' := 24) (x := 0) dX12_joins_23 (by decide) rfl ?_
      refine x_istore_n (pc' := 25) (L' := [some (.ref 90), some (.int v1), some (.int v2), some (.int (0 : Int32)), none, none, none]) dX12_joins_24 (Nat.le_of_ble_eq_true rfl) rfl rfl ?_
      refine x_iconst (pc' := 26) (x := 0) dX12_joins_25 (by decide) rfl ?_
      refine x_istore (pc' := 28) (L' := [some (.ref 90), some (.int v1), some (.int v2), some (.int (0 : Int32)), some (.int (0 : Int32)), none, none]) dX12_joins_26 (Nat.le_of_ble_eq_true rfl) rfl rfl ?_
      exact r_X12_joins_28 1000000 _ _ _ _ _ _ _ _ _ _ h
def F_X12_would_121 (s1 : Int32) (s2 : Int32) (hi : Nat → Nat → Int32) (hl : Nat → Nat → Int64) (r : xRr) : Option (Int32 × xSt) := xbI (F_X12_sink s1 s2 ((-1000) : Int32) hi hl r) (fun w2 hi2 hl2 r2 => some (w2, hi2, hl2, r2))
set_option maxRecDepth 20000 in
set_option maxHeartbeats 2000000 in
theorem r_X12_would_121 (s1 : Int32) (s2 : Int32) (d1 : Option Value) (d2 : Option Value) (d3 : Option Value) (hi : Nat → Nat → Int32) (hl : Nat → Nat → Int64) (r : xRr) (o : Int32 × xSt) (h : F_X12_would_121 s1 s2 hi hl r = some o) : xR (RX12, cX12_would, 4, false, 1) (4, 0, 0) z 0 0 121 [some (.ref 90), d1, d2, d3] [.int s2, .int s1, .ref 90] (xhp hi hl r) (xoI o) := by
  refine x_sipush (pc' := 124) (x := (-1000)) dX12_would_121 (by decide) rfl ?_
  refine xg_bI h (fun w2 hi2 hl2 r2 e1 h => ?_)
  refine x_callV (pc' := 127) (S := []) (As := [.int s1, .int s2, .int ((-1000) : Int32)]) (b' := (3, 0, 0)) dX12_would_124 l_X12_219 m_X12_sink rfl rfl (show 90 < 122 by decide) rfl (Nat.le_of_ble_eq_true rfl) (Nat.le_of_ble_eq_true rfl) (Nat.le_of_ble_eq_true rfl) (Nat.le_of_ble_eq_true rfl) (r_X12_sink _ _ _ _ _ _ _ e1) rfl ?_
  obtain rfl := Option.some.inj h
  exact x_iret dX12_would_127 rfl rfl (Nat.le_of_ble_eq_true rfl) rfl
def F_X12_would_89 (v1 : Int32) (v2 : Int32) (v3 : Int32) (s1 : Int32) (hi : Nat → Nat → Int32) (hl : Nat → Nat → Int64) (r : xRr) : Option (Int32 × xSt) := if v2 = 0 then xbI (F_X12_fetch v1 v3 ((-1000) : Int32) (xu hi 90 31 s1) hl r) (fun w3 hi3 hl3 r3 => some (w3, hi3, hl3, r3)) else if v2 = (1 : Int32) then F_X12_would_121 v1 v3 (xu hi 90 31 s1) hl r else F_X12_would_121 v1 (8 : Int32) (xu hi 90 31 s1) hl r
set_option maxRecDepth 20000 in
set_option maxHeartbeats 2000000 in
theorem r_X12_would_89 (v1 : Int32) (v2 : Int32) (v3 : Int32) (s1 : Int32) (hi : Nat → Nat → Int32) (hl : Nat → Nat → Int64) (r : xRr) (o : Int32 × xSt) (h : F_X12_would_89 v1 v2 v3 s1 hi hl r = some o) : xR (RX12, cX12_would, 4, false, 1) (4, 0, 0) z 0 0 89 [some (.ref 90), some (.int v1), some (.int v2), some (.int v3)] [.int s1, .ref 90] (xhp hi hl r) (xoI o) := by
  refine x_puti (pc' := 92) dX12_would_89 f_X12_182 (Or.inl rfl) (by decide) rfl rfl rfl ?_
  refine x_iload_n (pc' := 93) dX12_would_92 rfl rfl ?_
  refine xg_ite h (fun g1 h => ?_) (fun g1 h => ?_)
  · refine x_if_ne (tgt := 108) (pc' := 96) dX12_would_93 (by decide) rfl (fun hn => absurd g1 hn) (fun _ => ?_)
    refine x_aload_n (pc' := 97) dX12_would_96 rfl rfl ?_
    refine x_iload_n (pc' := 98) dX12_would_97 rfl rfl ?_
    refine x_iload_n (pc' := 99) dX12_would_98 rfl rfl ?_
    refine x_sipush (pc' := 102) (x := (-1000)) dX12_would_99 (by decide) rfl ?_
    refine xg_bI h (fun w3 hi3 hl3 r3 e2 h => ?_)
    refine x_callV (pc' := 105) (S := []) (As := [.int v1, .int v3, .int ((-1000) : Int32)]) (b' := (3, 0, 0)) dX12_would_102 l_X12_212 m_X12_fetch rfl rfl (show 90 < 122 by decide) rfl (Nat.le_of_ble_eq_true rfl) (Nat.le_of_ble_eq_true rfl) (Nat.le_of_ble_eq_true rfl) (Nat.le_of_ble_eq_true rfl) (r_X12_fetch _ _ _ _ _ _ _ e2) rfl ?_
    refine x_goto (tgt := 127) dX12_would_105 (by decide) ?_
    obtain rfl := Option.some.inj h
    exact x_iret dX12_would_127 rfl rfl (Nat.le_of_ble_eq_true rfl) rfl
  · refine x_if_ne (tgt := 108) (pc' := 96) dX12_would_93 (by decide) rfl (fun _ => ?_) (fun hn => absurd hn g1)
    refine x_aload_n (pc' := 109) dX12_would_108 rfl rfl ?_
    refine x_iload_n (pc' := 110) dX12_would_109 rfl rfl ?_
    refine x_iload_n (pc' := 111) dX12_would_110 rfl rfl ?_
    refine x_iconst (pc' := 112) (x := 1) dX12_would_111 (by decide) rfl ?_
    refine xg_ite h (fun g4 h => ?_) (fun g4 h => ?_)
    · refine x_icmp_ne (tgt := 119) (pc' := 115) dX12_would_112 (by decide) rfl (fun hn => absurd g4 hn) (fun _ => ?_)
      refine x_iload_n (pc' := 116) dX12_would_115 rfl rfl ?_
      refine x_goto (tgt := 121) dX12_would_116 (by decide) ?_
      exact r_X12_would_121 _ _ _ _ _ _ _ _ _ h
    · refine x_icmp_ne (tgt := 119) (pc' := 115) dX12_would_112 (by decide) rfl (fun _ => ?_) (fun hn => absurd hn g4)
      refine x_bipush (pc' := 121) (x := 8) dX12_would_119 (by decide) rfl ?_
      exact r_X12_would_121 _ _ _ _ _ _ _ _ _ h
def F_X12_would_52 (v1 : Int32) (v2 : Int32) (v3 : Int32) (s0 : Int64) (s1 : Int64) (s2 : Int64) (hi : Nat → Nat → Int32) (hl : Nat → Nat → Int64) (r : xRr) : Option (Int32 × xSt) := xbP (F_X12_in s0 s1 s2) (fun w2 => if w2 = 0 then some (((-1) : Int32), hi, hl, r) else if (8 : Int32) ≤ v3 then if v3 = (8 : Int32) then F_X12_would_89 v1 v2 v3 (10 : Int32) hi (xu hl 90 32 (0 : Int64)) r else F_X12_would_89 v1 v2 v3 (9 : Int32) hi (xu hl 90 32 (0 : Int64)) r else F_X12_would_89 v1 v2 v3 v3 hi (xu hl 90 32 (0 : Int64)) r)
set_option maxRecDepth 20000 in
set_option maxHeartbeats 2000000 in
theorem r_X12_would_52 (v1 : Int32) (v2 : Int32) (v3 : Int32) (s0 : Int64) (s1 : Int64) (s2 : Int64) (hi : Nat → Nat → Int32) (hl : Nat → Nat → Int64) (r : xRr) (o : Int32 × xSt) (h : F_X12_would_52 v1 v2 v3 s0 s1 s2 hi hl r = some o) : xR (RX12, cX12_would, 4, false, 1) (4, 0, 0) z 0 0 52 [some (.ref 90), some (.int v1), some (.int v2), some (.int v3)] [.long s2, .long s1, .long s0] (xhp hi hl r) (xoI o) := by
  refine xg_bP h (fun w2 e1 h => ?_)
  refine x_callS (pc' := 55) (S := []) (As := [.long s0, .long s1, .long s2]) (b' := (0, 0, 0)) dX12_would_52 l_X12_118 m_X12_in rfl rfl (Nat.le_of_ble_eq_true rfl) (Nat.le_of_ble_eq_true rfl) (Nat.le_of_ble_eq_true rfl) (Nat.le_of_ble_eq_true rfl) (r_X12_in _ _ _ _ _ e1) rfl ?_
  refine xg_ite h (fun g3 h => ?_) (fun g3 h => ?_)
  · refine x_if_ne (tgt := 60) (pc' := 58) dX12_would_55 (by decide) rfl (fun hn => absurd g3 hn) (fun _ => ?_)
    refine x_iconst (pc' := 59) (x := (-1)) dX12_would_58 (by decide) rfl ?_
    obtain rfl := Option.some.inj h
    exact x_iret dX12_would_59 rfl rfl (Nat.le_of_ble_eq_true rfl) rfl
  · refine x_if_ne (tgt := 60) (pc' := 58) dX12_would_55 (by decide) rfl (fun _ => ?_) (fun hn => absurd hn g3)
    refine x_aload_n (pc' := 61) dX12_would_60 rfl rfl ?_
    refine x_lconst (pc' := 62) (x := 0) dX12_would_61 (by decide) rfl ?_
    refine x_putl (pc' := 65) dX12_would_62 f_X12_185 (Or.inl rfl) (by decide) rfl rfl rfl ?_
    refine x_aload_n (pc' := 66) dX12_would_65 rfl rfl ?_
    refine x_iload_n (pc' := 67) dX12_would_66 rfl rfl ?_
    refine x_bipush (pc' := 69) (x := 8) dX12_would_67 (by decide) rfl ?_
    refine xg_ite h (fun g4 h => ?_) (fun g4 h => ?_)
    · refine x_icmp_ge (tgt := 76) (pc' := 72) dX12_would_69 (by decide) rfl (fun _ => ?_) (fun hn => absurd g4 hn)
      refine x_iload_n (pc' := 77) dX12_would_76 rfl rfl ?_
      refine x_bipush (pc' := 79) (x := 8) dX12_would_77 (by decide) rfl ?_
      refine xg_ite h (fun g5 h => ?_) (fun g5 h => ?_)
      · refine x_icmp_ne (tgt := 87) (pc' := 82) dX12_would_79 (by decide) rfl (fun hn => absurd g5 hn) (fun _ => ?_)
        refine x_bipush (pc' := 84) (x := 10) dX12_would_82 (by decide) rfl ?_
        refine x_goto (tgt := 89) dX12_would_84 (by decide) ?_
        exact r_X12_would_89 _ _ _ _ _ _ _ _ h
      · refine x_icmp_ne (tgt := 87) (pc' := 82) dX12_would_79 (by decide) rfl (fun _ => ?_) (fun hn => absurd hn g5)
        refine x_bipush (pc' := 89) (x := 9) dX12_would_87 (by decide) rfl ?_
        exact r_X12_would_89 _ _ _ _ _ _ _ _ h
    · refine x_icmp_ge (tgt := 76) (pc' := 72) dX12_would_69 (by decide) rfl (fun hn => absurd hn g4) (fun _ => ?_)
      refine x_iload_n (pc' := 73) dX12_would_72 rfl rfl ?_
      refine x_goto (tgt := 89) dX12_would_73 (by decide) ?_
      exact r_X12_would_89 _ _ _ _ _ _ _ _ h
def F_X12_would (v1 : Int32) (v2 : Int32) (v3 : Int32) (hi : Nat → Nat → Int32) (hl : Nat → Nat → Int64) (r : xRr) : Option (Int32 × xSt) := xbI (F_X12_isView v1 (xu hi 90 0 (0 : Int32)) hl r) (fun w2 hi2 hl2 r2 => if w2 = 0 then some (((-1) : Int32), hi2, hl2, r2) else xbP (F_X12_in (Int32.toInt64 v2) (0 : Int64) (2 : Int64)) (fun w5 => if w5 = 0 then some (((-1) : Int32), hi2, hl2, r2) else if v2 = 0 then F_X12_would_52 v1 v2 v3 (Int32.toInt64 v3) (0 : Int64) (8 : Int64) hi2 hl2 r2 else if v2 = (1 : Int32) then F_X12_would_52 v1 v2 v3 (Int32.toInt64 v3) (0 : Int64) (7 : Int64) hi2 hl2 r2 else F_X12_would_52 v1 v2 v3 (Int32.toInt64 v3) (0 : Int64) (9 : Int64) hi2 hl2 r2))
set_option maxRecDepth 20000 in
set_option maxHeartbeats 2000000 in
theorem r_X12_would (v1 : Int32) (v2 : Int32) (v3 : Int32) (hi : Nat → Nat → Int32) (hl : Nat → Nat → Int64) (r : xRr) (o : Int32 × xSt) (h : F_X12_would v1 v2 v3 hi hl r = some o) : xM yX12_would cX12_would 4 1 (4, 0, 0) z [.ref 90, .int v1, .int v2, .int v3] (xhp hi hl r) (xoI o) := by
  refine x_meth2 (C := RX12) (ini := false) (L := [some (.ref 90), some (.int v1), some (.int v2), some (.int v3)]) rfl (by decide) (fun h9 => by cases h9) (by decide) (Nat.le_of_ble_eq_true rfl) rfl ?_
  refine x_aload_n (pc' := 1) dX12_would_0 rfl rfl ?_
  refine x_iconst (pc' := 2) (x := 0) dX12_would_1 (by decide) rfl ?_
  refine x_puti (pc' := 5) dX12_would_2 f_X12_109 (Or.inl rfl) (by decide) rfl rfl rfl ?_
  refine x_aload_n (pc' := 6) dX12_would_5 rfl rfl ?_
  refine x_iload_n (pc' := 7) dX12_would_6 rfl rfl ?_
  refine xg_bI h (fun w2 hi2 hl2 r2 e1 h => ?_)
  refine x_callV (pc' := 10) (S := []) (As := [.int v1]) (b' := (1, 0, 0)) dX12_would_7 l_X12_152 m_X12_isView rfl rfl (show 90 < 122 by decide) rfl (Nat.le_of_ble_eq_true rfl) (Nat.le_of_ble_eq_true rfl) (Nat.le_of_ble_eq_true rfl) (Nat.le_of_ble_eq_true rfl) (r_X12_isView _ _ _ _ _ e1) rfl ?_
  refine xg_ite h (fun g3 h => ?_) (fun g3 h => ?_)
  · refine x_if_eq (tgt := 58) (pc' := 13) dX12_would_10 (by decide) rfl (fun _ => ?_) (fun hn => absurd g3 hn)
    refine x_iconst (pc' := 59) (x := (-1)) dX12_would_58 (by decide) rfl ?_
    obtain rfl := Option.some.inj h
    exact x_iret dX12_would_59 rfl rfl (Nat.le_of_ble_eq_true rfl) rfl
  · refine x_if_eq (tgt := 58) (pc' := 13) dX12_would_10 (by decide) rfl (fun hn => absurd hn g3) (fun _ => ?_)
    refine x_iload_n (pc' := 14) dX12_would_13 rfl rfl ?_
    refine x_i2l (pc' := 15) dX12_would_14 rfl ?_
    refine x_lconst (pc' := 16) (x := 0) dX12_would_15 (by decide) rfl ?_
    refine x_ldc2 (pc' := 19) dX12_would_16 k_X12_112 rfl ?_
    refine xg_bP h (fun w5 e4 h => ?_)
    refine x_callS (pc' := 22) (S := []) (As := [.long (Int32.toInt64 v2), .long (0 : Int64), .long (2 : Int64)]) (b' := (0, 0, 0)) dX12_would_19 l_X12_118 m_X12_in rfl rfl (Nat.le_of_ble_eq_true rfl) (Nat.le_of_ble_eq_true rfl) (Nat.le_of_ble_eq_true rfl) (Nat.le_of_ble_eq_true rfl) (r_X12_in _ _ _ _ _ e4) rfl ?_
    refine xg_ite h (fun g6 h => ?_) (fun g6 h => ?_)
    · refine x_if_eq (tgt := 58) (pc' := 25) dX12_would_22 (by decide) rfl (fun _ => ?_) (fun hn => absurd g6 hn)
      refine x_iconst (pc' := 59) (x := (-1)) dX12_would_58 (by decide) rfl ?_
      obtain rfl := Option.some.inj h
      exact x_iret dX12_would_59 rfl rfl (Nat.le_of_ble_eq_true rfl) rfl
    · refine x_if_eq (tgt := 58) (pc' := 25) dX12_would_22 (by decide) rfl (fun hn => absurd hn g6) (fun _ => ?_)
      refine x_iload_n (pc' := 26) dX12_would_25 rfl rfl ?_
      refine x_i2l (pc' := 27) dX12_would_26 rfl ?_
      refine x_lconst (pc' := 28) (x := 0) dX12_would_27 (by decide) rfl ?_
      refine x_iload_n (pc' := 29) dX12_would_28 rfl rfl ?_
      refine xg_ite h (fun g7 h => ?_) (fun g7 h => ?_)
      · refine x_if_ne (tgt := 38) (pc' := 32) dX12_would_29 (by decide) rfl (fun hn => absurd g7 hn) (fun _ => ?_)
        refine x_ldc2 (pc' := 35) dX12_would_32 k_X12_163 rfl ?_
        refine x_goto (tgt := 52) dX12_would_35 (by decide) ?_
        exact r_X12_would_52 _ _ _ _ _ _ _ _ _ _ h
      · refine x_if_ne (tgt := 38) (pc' := 32) dX12_would_29 (by decide) rfl (fun _ => ?_) (fun hn => absurd hn g7)
        refine x_iload_n (pc' := 39) dX12_would_38 rfl rfl ?_
        refine x_iconst (pc' := 40) (x := 1) dX12_would_39 (by decide) rfl ?_
        refine xg_ite h (fun g8 h => ?_) (fun g8 h => ?_)
        · refine x_icmp_ne (tgt := 49) (pc' := 43) dX12_would_40 (by decide) rfl (fun hn => absurd g8 hn) (fun _ => ?_)
          refine x_ldc2 (pc' := 46) dX12_would_43 k_X12_235 rfl ?_
          refine x_goto (tgt := 52) dX12_would_46 (by decide) ?_
          exact r_X12_would_52 _ _ _ _ _ _ _ _ _ _ h
        · refine x_icmp_ne (tgt := 49) (pc' := 43) dX12_would_40 (by decide) rfl (fun _ => ?_) (fun hn => absurd hn g8)
          refine x_ldc2 (pc' := 52) dX12_would_49 k_X12_233 rfl ?_
          exact r_X12_would_52 _ _ _ _ _ _ _ _ _ _ h
def F_X12_shares_92 (K28 : Int32 → Int32 → Int32 → Int32 → (Nat → Nat → Int32) → (Nat → Nat → Int64) → xRr → Option (Int32 × xSt)) (K42 : Int32 → Int32 → Int32 → Int32 → Int32 → (Nat → Nat → Int32) → (Nat → Nat → Int64) → xRr → Option (Int32 × xSt)) (v1 : Int32) (v2 : Int32) (v4 : Int32) (v5 : Int32) (s0 : Int32) (s1 : Int32) (hi : Nat → Nat → Int32) (hl : Nat → Nat → Int64) (r : xRr) : Option (Int32 × xSt) := K42 v1 v2 (s0 ||| s1) v4 (v5 + (1)) hi hl r
set_option maxRecDepth 20000 in
set_option maxHeartbeats 2000000 in
theorem r_X12_shares_92 (K28 : Int32 → Int32 → Int32 → Int32 → (Nat → Nat → Int32) → (Nat → Nat → Int64) → xRr → Option (Int32 × xSt)) (hK28 : ∀ (v1 : Int32) (v2 : Int32) (v3 : Int32) (v4 : Int32) (d5 : Option Value) (hi : Nat → Nat → Int32) (hl : Nat → Nat → Int64) (r : xRr) (o : Int32 × xSt), K28 v1 v2 v3 v4 hi hl r = some o → xR (RX12, cX12_shares, 6, false, 1) (3, 0, 0) z 0 0 28 [some (.ref 90), some (.int v1), some (.int v2), some (.int v3), some (.int v4), d5] [] (xhp hi hl r) (xoI o)) (K42 : Int32 → Int32 → Int32 → Int32 → Int32 → (Nat → Nat → Int32) → (Nat → Nat → Int64) → xRr → Option (Int32 × xSt)) (hK42 : ∀ (v1 : Int32) (v2 : Int32) (v3 : Int32) (v4 : Int32) (v5 : Int32) (hi : Nat → Nat → Int32) (hl : Nat → Nat → Int64) (r : xRr) (o : Int32 × xSt), K42 v1 v2 v3 v4 v5 hi hl r = some o → xR (RX12, cX12_shares, 6, false, 1) (3, 0, 0) z 0 0 42 [some (.ref 90), some (.int v1), some (.int v2), some (.int v3), some (.int v4), some (.int v5)] [] (xhp hi hl r) (xoI o)) (v1 : Int32) (v2 : Int32) (v4 : Int32) (v5 : Int32) (s0 : Int32) (s1 : Int32) (d3 : Option Value) (hi : Nat → Nat → Int32) (hl : Nat → Nat → Int64) (r : xRr) (o : Int32 × xSt) (h : F_X12_shares_92 K28 K42 v1 v2 v4 v5 s0 s1 hi hl r = some o) : xR (RX12, cX12_shares, 6, false, 1) (3, 0, 0) z 0 0 92 [some (.ref 90), some (.int v1), some (.int v2), d3, some (.int v4), some (.int v5)] [.int s1, .int s0] (xhp hi hl r) (xoI o) := by
  refine x_ior (pc' := 93) dX12_shares_92 rfl ?_
  refine x_istore_n (pc' := 94) (L' := [some (.ref 90), some (.int v1), some (.int v2), some (.int (s0 ||| s1)), some (.int v4), some (.int v5)]) dX12_shares_93 (Nat.le_of_ble_eq_true rfl) rfl rfl ?_
  refine x_iinc (pc' := 97) (v := (v5 + (1))) (L' := [some (.ref 90), some (.int v1), some (.int v2), some (.int (s0 ||| s1)), some (.int v4), some (.int (v5 + (1)))]) dX12_shares_94 rfl rfl (Nat.le_of_ble_eq_true rfl) rfl rfl ?_
  refine x_goto (tgt := 42) dX12_shares_97 (by decide) ?_
  exact hK42 _ _ _ _ _ _ _ _ _ h
def F_X12_shares_91 (K28 : Int32 → Int32 → Int32 → Int32 → (Nat → Nat → Int32) → (Nat → Nat → Int64) → xRr → Option (Int32 × xSt)) (K42 : Int32 → Int32 → Int32 → Int32 → Int32 → (Nat → Nat → Int32) → (Nat → Nat → Int64) → xRr → Option (Int32 × xSt)) (v1 : Int32) (v2 : Int32) (v4 : Int32) (v5 : Int32) (s0 : Int32) (hi : Nat → Nat → Int32) (hl : Nat → Nat → Int64) (r : xRr) : Option (Int32 × xSt) := F_X12_shares_92 K28 K42 v1 v2 v4 v5 s0 (0 : Int32) hi hl r
set_option maxRecDepth 20000 in
set_option maxHeartbeats 2000000 in
theorem r_X12_shares_91 (K28 : Int32 → Int32 → Int32 → Int32 → (Nat → Nat → Int32) → (Nat → Nat → Int64) → xRr → Option (Int32 × xSt)) (hK28 : ∀ (v1 : Int32) (v2 : Int32) (v3 : Int32) (v4 : Int32) (d5 : Option Value) (hi : Nat → Nat → Int32) (hl : Nat → Nat → Int64) (r : xRr) (o : Int32 × xSt), K28 v1 v2 v3 v4 hi hl r = some o → xR (RX12, cX12_shares, 6, false, 1) (3, 0, 0) z 0 0 28 [some (.ref 90), some (.int v1), some (.int v2), some (.int v3), some (.int v4), d5] [] (xhp hi hl r) (xoI o)) (K42 : Int32 → Int32 → Int32 → Int32 → Int32 → (Nat → Nat → Int32) → (Nat → Nat → Int64) → xRr → Option (Int32 × xSt)) (hK42 : ∀ (v1 : Int32) (v2 : Int32) (v3 : Int32) (v4 : Int32) (v5 : Int32) (hi : Nat → Nat → Int32) (hl : Nat → Nat → Int64) (r : xRr) (o : Int32 × xSt), K42 v1 v2 v3 v4 v5 hi hl r = some o → xR (RX12, cX12_shares, 6, false, 1) (3, 0, 0) z 0 0 42 [some (.ref 90), some (.int v1), some (.int v2), some (.int v3), some (.int v4), some (.int v5)] [] (xhp hi hl r) (xoI o)) (v1 : Int32) (v2 : Int32) (v4 : Int32) (v5 : Int32) (s0 : Int32) (d3 : Option Value) (hi : Nat → Nat → Int32) (hl : Nat → Nat → Int64) (r : xRr) (o : Int32 × xSt) (h : F_X12_shares_91 K28 K42 v1 v2 v4 v5 s0 hi hl r = some o) : xR (RX12, cX12_shares, 6, false, 1) (3, 0, 0) z 0 0 91 [some (.ref 90), some (.int v1), some (.int v2), d3, some (.int v4), some (.int v5)] [.int s0] (xhp hi hl r) (xoI o) := by
  refine x_iconst (pc' := 92) (x := 0) dX12_shares_91 (by decide) rfl ?_
  exact r_X12_shares_92 K28 hK28 K42 hK42 _ _ _ _ _ _ _ _ _ _ _ h
def F_X12_shares_42 (K28 : Int32 → Int32 → Int32 → Int32 → (Nat → Nat → Int32) → (Nat → Nat → Int64) → xRr → Option (Int32 × xSt)) : Nat → Int32 → Int32 → Int32 → Int32 → Int32 → (Nat → Nat → Int32) → (Nat → Nat → Int64) → xRr → Option (Int32 × xSt)
  | 0, _, _, _, _, _, _, _, _ => none
  | n + 1, v1, v2, v3, v4, v5, hi, hl, r => if xok v2 8 = true then if (hi 98 (Int32.toNatClampNeg v2)) ≤ v5 then K28 v1 v2 v3 (v4 + (1)) hi hl r else xbI (F_X12_cellAt v1 v4 hi hl r) (fun w4 hi4 hl4 r4 => if w4 = ((-1000) : Int32) then F_X12_shares_91 K28 (F_X12_shares_42 K28 n) v1 v2 v4 v5 v3 hi4 hl4 r4 else xbI (F_X12_cellAt v1 v4 hi4 hl4 r4) (fun w7 hi7 hl7 r7 => xbI (F_X12_cellAt v2 v5 hi7 hl7 r7) (fun w9 hi9 hl9 r9 => if w7 = w9 then F_X12_shares_92 K28 (F_X12_shares_42 K28 n) v1 v2 v4 v5 v3 ((1 : Int32) <<< (v4 &&& 31)) hi9 hl9 r9 else F_X12_shares_91 K28 (F_X12_shares_42 K28 n) v1 v2 v4 v5 v3 hi9 hl9 r9))) else none
set_option maxRecDepth 20000 in
set_option maxHeartbeats 2000000 in
theorem r_X12_shares_42 (K28 : Int32 → Int32 → Int32 → Int32 → (Nat → Nat → Int32) → (Nat → Nat → Int64) → xRr → Option (Int32 × xSt)) (hK28 : ∀ (v1 : Int32) (v2 : Int32) (v3 : Int32) (v4 : Int32) (d5 : Option Value) (hi : Nat → Nat → Int32) (hl : Nat → Nat → Int64) (r : xRr) (o : Int32 × xSt), K28 v1 v2 v3 v4 hi hl r = some o → xR (RX12, cX12_shares, 6, false, 1) (3, 0, 0) z 0 0 28 [some (.ref 90), some (.int v1), some (.int v2), some (.int v3), some (.int v4), d5] [] (xhp hi hl r) (xoI o)) : ∀ (n : Nat) (v1 : Int32) (v2 : Int32) (v3 : Int32) (v4 : Int32) (v5 : Int32) (hi : Nat → Nat → Int32) (hl : Nat → Nat → Int64) (r : xRr) (o : Int32 × xSt), F_X12_shares_42 K28 n v1 v2 v3 v4 v5 hi hl r = some o → xR (RX12, cX12_shares, 6, false, 1) (3, 0, 0) z 0 0 42 [some (.ref 90), some (.int v1), some (.int v2), some (.int v3), some (.int v4), some (.int v5)] [] (xhp hi hl r) (xoI o) := by
  intro n
  induction n with
  | zero =>
    intro v1 v2 v3 v4 v5 hi hl r o h
    have h : none = some o := h
    cases h
  | succ n ih =>
    intro v1 v2 v3 v4 v5 hi hl r o h
    refine x_iload (pc' := 44) dX12_shares_42 rfl rfl ?_
    refine x_aload_n (pc' := 45) dX12_shares_44 rfl rfl ?_
    refine x_getr (pc' := 48) (t := 98) dX12_shares_45 f_X12_32 (by decide) rfl rfl rfl rfl ?_
    refine x_iload_n (pc' := 49) dX12_shares_48 rfl rfl ?_
    refine xg_if h (fun g1 h => ?_)
    refine x_iald (pc' := 50) dX12_shares_49 (by decide) rfl (xok_in g1) rfl ?_
    refine xg_ite h (fun g2 h => ?_) (fun g2 h => ?_)
    · refine x_icmp_ge (tgt := 100) (pc' := 53) dX12_shares_50 (by decide) rfl (fun _ => ?_) (fun hn => absurd g2 hn)
      refine x_iinc (pc' := 103) (v := (v4 + (1))) (L' := [some (.ref 90), some (.int v1), some (.int v2), some (.int v3), some (.int (v4 + (1))), some (.int v5)]) dX12_shares_100 rfl rfl (Nat.le_of_ble_eq_true rfl) rfl rfl ?_
      refine x_goto (tgt := 28) dX12_shares_103 (by decide) ?_
      exact hK28 _ _ _ _ _ _ _ _ _ h
    · refine x_icmp_ge (tgt := 100) (pc' := 53) dX12_shares_50 (by decide) rfl (fun hn => absurd hn g2) (fun _ => ?_)
      refine x_iload_n (pc' := 54) dX12_shares_53 rfl rfl ?_
      refine x_aload_n (pc' := 55) dX12_shares_54 rfl rfl ?_
      refine x_iload_n (pc' := 56) dX12_shares_55 rfl rfl ?_
      refine x_iload (pc' := 58) dX12_shares_56 rfl rfl ?_
      refine xg_bI h (fun w4 hi4 hl4 r4 e3 h => ?_)
      refine x_callV (pc' := 61) (S := [.int v3]) (As := [.int v1, .int v4]) (b' := (2, 0, 0)) dX12_shares_58 l_X12_334 m_X12_cellAt rfl rfl (show 90 < 122 by decide) rfl (Nat.le_of_ble_eq_true rfl) (Nat.le_of_ble_eq_true rfl) (Nat.le_of_ble_eq_true rfl) (Nat.le_of_ble_eq_true rfl) (r_X12_cellAt _ _ _ _ _ _ e3) rfl ?_
      refine x_sipush (pc' := 64) (x := (-1000)) dX12_shares_61 (by decide) rfl ?_
      refine xg_ite h (fun g5 h => ?_) (fun g5 h => ?_)
      · refine x_icmp_eq (tgt := 91) (pc' := 67) dX12_shares_64 (by decide) rfl (fun _ => ?_) (fun hn => absurd g5 hn)
        exact r_X12_shares_91 K28 hK28 (F_X12_shares_42 K28 n) ih _ _ _ _ _ _ _ _ _ _ h
      · refine x_icmp_eq (tgt := 91) (pc' := 67) dX12_shares_64 (by decide) rfl (fun hn => absurd hn g5) (fun _ => ?_)
        refine x_aload_n (pc' := 68) dX12_shares_67 rfl rfl ?_
        refine x_iload_n (pc' := 69) dX12_shares_68 rfl rfl ?_
        refine x_iload (pc' := 71) dX12_shares_69 rfl rfl ?_
        refine xg_bI h (fun w7 hi7 hl7 r7 e6 h => ?_)
        refine x_callV (pc' := 74) (S := [.int v3]) (As := [.int v1, .int v4]) (b' := (2, 0, 0)) dX12_shares_71 l_X12_334 m_X12_cellAt rfl rfl (show 90 < 122 by decide) rfl (Nat.le_of_ble_eq_true rfl) (Nat.le_of_ble_eq_true rfl) (Nat.le_of_ble_eq_true rfl) (Nat.le_of_ble_eq_true rfl) (r_X12_cellAt _ _ _ _ _ _ e6) rfl ?_
        refine x_aload_n (pc' := 75) dX12_shares_74 rfl rfl ?_
        refine x_iload_n (pc' := 76) dX12_shares_75 rfl rfl ?_
        refine x_iload (pc' := 78) dX12_shares_76 rfl rfl ?_
        refine xg_bI h (fun w9 hi9 hl9 r9 e8 h => ?_)
        refine x_callV (pc' := 81) (S := [.int w7, .int v3]) (As := [.int v2, .int v5]) (b' := (2, 0, 0)) dX12_shares_78 l_X12_334 m_X12_cellAt rfl rfl (show 90 < 122 by decide) rfl (Nat.le_of_ble_eq_true rfl) (Nat.le_of_ble_eq_true rfl) (Nat.le_of_ble_eq_true rfl) (Nat.le_of_ble_eq_true rfl) (r_X12_cellAt _ _ _ _ _ _ e8) rfl ?_
        refine xg_ite h (fun g10 h => ?_) (fun g10 h => ?_)
        · refine x_icmp_ne (tgt := 91) (pc' := 84) dX12_shares_81 (by decide) rfl (fun hn => absurd g10 hn) (fun _ => ?_)
          refine x_iconst (pc' := 85) (x := 1) dX12_shares_84 (by decide) rfl ?_
          refine x_iload (pc' := 87) dX12_shares_85 rfl rfl ?_
          refine x_ishl (pc' := 88) dX12_shares_87 rfl ?_
          refine x_goto (tgt := 92) dX12_shares_88 (by decide) ?_
          exact r_X12_shares_92 K28 hK28 (F_X12_shares_42 K28 n) ih _ _ _ _ _ _ _ _ _ _ _ h
        · refine x_icmp_ne (tgt := 91) (pc' := 84) dX12_shares_81 (by decide) rfl (fun _ => ?_) (fun hn => absurd hn g10)
          exact r_X12_shares_91 K28 hK28 (F_X12_shares_42 K28 n) ih _ _ _ _ _ _ _ _ _ _ h
def F_X12_shares_28 : Nat → Int32 → Int32 → Int32 → Int32 → (Nat → Nat → Int32) → (Nat → Nat → Int64) → xRr → Option (Int32 × xSt)
  | 0, _, _, _, _, _, _, _ => none
  | n + 1, v1, v2, v3, v4, hi, hl, r => if xok v1 8 = true then if (hi 98 (Int32.toNatClampNeg v1)) ≤ v4 then some (v3, hi, hl, r) else F_X12_shares_42 (F_X12_shares_28 n) 1000000 v1 v2 v3 v4 (0 : Int32) hi hl r else none
set_option maxRecDepth 20000 in
set_option maxHeartbeats 2000000 in
theorem r_X12_shares_28 : ∀ (n : Nat) (v1 : Int32) (v2 : Int32) (v3 : Int32) (v4 : Int32) (d5 : Option Value) (hi : Nat → Nat → Int32) (hl : Nat → Nat → Int64) (r : xRr) (o : Int32 × xSt), F_X12_shares_28 n v1 v2 v3 v4 hi hl r = some o → xR (RX12, cX12_shares, 6, false, 1) (3, 0, 0) z 0 0 28 [some (.ref 90), some (.int v1), some (.int v2), some (.int v3), some (.int v4), d5] [] (xhp hi hl r) (xoI o) := by
  intro n
  induction n with
  | zero =>
    intro v1 v2 v3 v4 d5 hi hl r o h
    have h : none = some o := h
    cases h
  | succ n ih =>
    intro v1 v2 v3 v4 d5 hi hl r o h
    refine x_iload (pc' := 30) dX12_shares_28 rfl rfl ?_
    refine x_aload_n (pc' := 31) dX12_shares_30 rfl rfl ?_
    refine x_getr (pc' := 34) (t := 98) dX12_shares_31 f_X12_32 (by decide) rfl rfl rfl rfl ?_
    refine x_iload_n (pc' := 35) dX12_shares_34 rfl rfl ?_
    refine xg_if h (fun g1 h => ?_)
    refine x_iald (pc' := 36) dX12_shares_35 (by decide) rfl (xok_in g1) rfl ?_
    refine xg_ite h (fun g2 h => ?_) (fun g2 h => ?_)
    · refine x_icmp_ge (tgt := 106) (pc' := 39) dX12_shares_36 (by decide) rfl (fun _ => ?_) (fun hn => absurd g2 hn)
      refine x_iload_n (pc' := 107) dX12_shares_106 rfl rfl ?_
      obtain rfl := Option.some.inj h
      exact x_iret dX12_shares_107 rfl rfl (Nat.le_of_ble_eq_true rfl) rfl
    · refine x_icmp_ge (tgt := 106) (pc' := 39) dX12_shares_36 (by decide) rfl (fun hn => absurd hn g2) (fun _ => ?_)
      refine x_iconst (pc' := 40) (x := 0) dX12_shares_39 (by decide) rfl ?_
      refine x_istore (pc' := 42) (L' := [some (.ref 90), some (.int v1), some (.int v2), some (.int v3), some (.int v4), some (.int (0 : Int32))]) dX12_shares_40 (Nat.le_of_ble_eq_true rfl) rfl rfl ?_
      exact r_X12_shares_42 (F_X12_shares_28 n) ih 1000000 _ _ _ _ _ _ _ _ _ h
def F_X12_shares (v1 : Int32) (v2 : Int32) (hi : Nat → Nat → Int32) (hl : Nat → Nat → Int64) (r : xRr) : Option (Int32 × xSt) := xbI (F_X12_isView v1 (xu hi 90 0 (0 : Int32)) hl r) (fun w2 hi2 hl2 r2 => if w2 = 0 then some (((-1) : Int32), hi2, hl2, r2) else xbI (F_X12_isView v2 hi2 hl2 r2) (fun w5 hi5 hl5 r5 => if w5 = 0 then some (((-1) : Int32), hi5, hl5, r5) else F_X12_shares_28 1000000 v1 v2 (0 : Int32) (0 : Int32) hi5 hl5 r5))
set_option maxRecDepth 20000 in
set_option maxHeartbeats 2000000 in
theorem r_X12_shares (v1 : Int32) (v2 : Int32) (hi : Nat → Nat → Int32) (hl : Nat → Nat → Int64) (r : xRr) (o : Int32 × xSt) (h : F_X12_shares v1 v2 hi hl r = some o) : xM yX12_shares cX12_shares 6 1 (3, 0, 0) z [.ref 90, .int v1, .int v2] (xhp hi hl r) (xoI o) := by
  refine x_meth2 (C := RX12) (ini := false) (L := [some (.ref 90), some (.int v1), some (.int v2), none, none, none]) rfl (by decide) (fun h9 => by cases h9) (by decide) (Nat.le_of_ble_eq_true rfl) rfl ?_
  refine x_aload_n (pc' := 1) dX12_shares_0 rfl rfl ?_
  refine x_iconst (pc' := 2) (x := 0) dX12_shares_1 (by decide) rfl ?_
  refine x_puti (pc' := 5) dX12_shares_2 f_X12_109 (Or.inl rfl) (by decide) rfl rfl rfl ?_
  refine x_aload_n (pc' := 6) dX12_shares_5 rfl rfl ?_
  refine x_iload_n (pc' := 7) dX12_shares_6 rfl rfl ?_
  refine xg_bI h (fun w2 hi2 hl2 r2 e1 h => ?_)
  refine x_callV (pc' := 10) (S := []) (As := [.int v1]) (b' := (1, 0, 0)) dX12_shares_7 l_X12_152 m_X12_isView rfl rfl (show 90 < 122 by decide) rfl (Nat.le_of_ble_eq_true rfl) (Nat.le_of_ble_eq_true rfl) (Nat.le_of_ble_eq_true rfl) (Nat.le_of_ble_eq_true rfl) (r_X12_isView _ _ _ _ _ e1) rfl ?_
  refine xg_ite h (fun g3 h => ?_) (fun g3 h => ?_)
  · refine x_if_eq (tgt := 21) (pc' := 13) dX12_shares_10 (by decide) rfl (fun _ => ?_) (fun hn => absurd g3 hn)
    refine x_iconst (pc' := 22) (x := (-1)) dX12_shares_21 (by decide) rfl ?_
    obtain rfl := Option.some.inj h
    exact x_iret dX12_shares_22 rfl rfl (Nat.le_of_ble_eq_true rfl) rfl
  · refine x_if_eq (tgt := 21) (pc' := 13) dX12_shares_10 (by decide) rfl (fun hn => absurd hn g3) (fun _ => ?_)
    refine x_aload_n (pc' := 14) dX12_shares_13 rfl rfl ?_
    refine x_iload_n (pc' := 15) dX12_shares_14 rfl rfl ?_
    refine xg_bI h (fun w5 hi5 hl5 r5 e4 h => ?_)
    refine x_callV (pc' := 18) (S := []) (As := [.int v2]) (b' := (1, 0, 0)) dX12_shares_15 l_X12_152 m_X12_isView rfl rfl (show 90 < 122 by decide) rfl (Nat.le_of_ble_eq_true rfl) (Nat.le_of_ble_eq_true rfl) (Nat.le_of_ble_eq_true rfl) (Nat.le_of_ble_eq_true rfl) (r_X12_isView _ _ _ _ _ e4) rfl ?_
    refine xg_ite h (fun g6 h => ?_) (fun g6 h => ?_)
    · refine x_if_ne (tgt := 23) (pc' := 21) dX12_shares_18 (by decide) rfl (fun hn => absurd g6 hn) (fun _ => ?_)
      refine x_iconst (pc' := 22) (x := (-1)) dX12_shares_21 (by decide) rfl ?_
      obtain rfl := Option.some.inj h
      exact x_iret dX12_shares_22 rfl rfl (Nat.le_of_ble_eq_true rfl) rfl
    · refine x_if_ne (tgt := 23) (pc' := 21) dX12_shares_18 (by decide) rfl (fun _ => ?_) (fun hn => absurd hn g6)
      refine x_iconst (pc' := 24) (x := 0) dX12_shares_23 (by decide) rfl ?_
      refine x_istore_n (pc' := 25) (L' := [some (.ref 90), some (.int v1), some (.int v2), some (.int (0 : Int32)), none, none]) dX12_shares_24 (Nat.le_of_ble_eq_true rfl) rfl rfl ?_
      refine x_iconst (pc' := 26) (x := 0) dX12_shares_25 (by decide) rfl ?_
      refine x_istore (pc' := 28) (L' := [some (.ref 90), some (.int v1), some (.int v2), some (.int (0 : Int32)), some (.int (0 : Int32)), none]) dX12_shares_26 (Nat.le_of_ble_eq_true rfl) rfl rfl ?_
      exact r_X12_shares_28 1000000 _ _ _ _ _ _ _ _ _ h
def F_X12_areOne (v1 : Int32) (v2 : Int32) (v3 : Int32) (v4 : Int32) (hi : Nat → Nat → Int32) (hl : Nat → Nat → Int64) (r : xRr) : Option (Int32 × xSt) := xbI (F_X12_cellAt v1 v2 hi hl r) (fun w2 hi2 hl2 r2 => if w2 = ((-1000) : Int32) then some ((0 : Int32), hi2, hl2, r2) else xbI (F_X12_cellAt v1 v2 hi2 hl2 r2) (fun w5 hi5 hl5 r5 => xbI (F_X12_cellAt v3 v4 hi5 hl5 r5) (fun w7 hi7 hl7 r7 => if w5 = w7 then some ((1 : Int32), hi7, hl7, r7) else some ((0 : Int32), hi7, hl7, r7))))
set_option maxRecDepth 20000 in
set_option maxHeartbeats 2000000 in
theorem r_X12_areOne (v1 : Int32) (v2 : Int32) (v3 : Int32) (v4 : Int32) (hi : Nat → Nat → Int32) (hl : Nat → Nat → Int64) (r : xRr) (o : Int32 × xSt) (h : F_X12_areOne v1 v2 v3 v4 hi hl r = some o) : xM yX12_areOne cX12_areOne 5 3 (3, 0, 0) z [.ref 90, .int v1, .int v2, .int v3, .int v4] (xhp hi hl r) (xoI o) := by
  refine x_meth2 (C := RX12) (ini := false) (L := [some (.ref 90), some (.int v1), some (.int v2), some (.int v3), some (.int v4)]) rfl (by decide) (fun h9 => by cases h9) (by decide) (Nat.le_of_ble_eq_true rfl) rfl ?_
  refine x_aload_n (pc' := 1) dX12_areOne_0 rfl rfl ?_
  refine x_iload_n (pc' := 2) dX12_areOne_1 rfl rfl ?_
  refine x_iload_n (pc' := 3) dX12_areOne_2 rfl rfl ?_
  refine xg_bI h (fun w2 hi2 hl2 r2 e1 h => ?_)
  refine x_callV (pc' := 6) (S := []) (As := [.int v1, .int v2]) (b' := (2, 0, 0)) dX12_areOne_3 l_X12_334 m_X12_cellAt rfl rfl (show 90 < 122 by decide) rfl (Nat.le_of_ble_eq_true rfl) (Nat.le_of_ble_eq_true rfl) (Nat.le_of_ble_eq_true rfl) (Nat.le_of_ble_eq_true rfl) (r_X12_cellAt _ _ _ _ _ _ e1) rfl ?_
  refine x_sipush (pc' := 9) (x := (-1000)) dX12_areOne_6 (by decide) rfl ?_
  refine xg_ite h (fun g3 h => ?_) (fun g3 h => ?_)
  · refine x_icmp_eq (tgt := 32) (pc' := 12) dX12_areOne_9 (by decide) rfl (fun _ => ?_) (fun hn => absurd g3 hn)
    refine x_iconst (pc' := 33) (x := 0) dX12_areOne_32 (by decide) rfl ?_
    obtain rfl := Option.some.inj h
    exact x_zret dX12_areOne_33 rfl (Or.inl rfl) rfl (Nat.le_of_ble_eq_true rfl) rfl
  · refine x_icmp_eq (tgt := 32) (pc' := 12) dX12_areOne_9 (by decide) rfl (fun hn => absurd hn g3) (fun _ => ?_)
    refine x_aload_n (pc' := 13) dX12_areOne_12 rfl rfl ?_
    refine x_iload_n (pc' := 14) dX12_areOne_13 rfl rfl ?_
    refine x_iload_n (pc' := 15) dX12_areOne_14 rfl rfl ?_
    refine xg_bI h (fun w5 hi5 hl5 r5 e4 h => ?_)
    refine x_callV (pc' := 18) (S := []) (As := [.int v1, .int v2]) (b' := (2, 0, 0)) dX12_areOne_15 l_X12_334 m_X12_cellAt rfl rfl (show 90 < 122 by decide) rfl (Nat.le_of_ble_eq_true rfl) (Nat.le_of_ble_eq_true rfl) (Nat.le_of_ble_eq_true rfl) (Nat.le_of_ble_eq_true rfl) (r_X12_cellAt _ _ _ _ _ _ e4) rfl ?_
    refine x_aload_n (pc' := 19) dX12_areOne_18 rfl rfl ?_
    refine x_iload_n (pc' := 20) dX12_areOne_19 rfl rfl ?_
    refine x_iload (pc' := 22) dX12_areOne_20 rfl rfl ?_
    refine xg_bI h (fun w7 hi7 hl7 r7 e6 h => ?_)
    refine x_callV (pc' := 25) (S := [.int w5]) (As := [.int v3, .int v4]) (b' := (2, 0, 0)) dX12_areOne_22 l_X12_334 m_X12_cellAt rfl rfl (show 90 < 122 by decide) rfl (Nat.le_of_ble_eq_true rfl) (Nat.le_of_ble_eq_true rfl) (Nat.le_of_ble_eq_true rfl) (Nat.le_of_ble_eq_true rfl) (r_X12_cellAt _ _ _ _ _ _ e6) rfl ?_
    refine xg_ite h (fun g8 h => ?_) (fun g8 h => ?_)
    · refine x_icmp_ne (tgt := 32) (pc' := 28) dX12_areOne_25 (by decide) rfl (fun hn => absurd g8 hn) (fun _ => ?_)
      refine x_iconst (pc' := 29) (x := 1) dX12_areOne_28 (by decide) rfl ?_
      refine x_goto (tgt := 33) dX12_areOne_29 (by decide) ?_
      obtain rfl := Option.some.inj h
      exact x_zret dX12_areOne_33 rfl (Or.inr rfl) rfl (Nat.le_of_ble_eq_true rfl) rfl
    · refine x_icmp_ne (tgt := 32) (pc' := 28) dX12_areOne_25 (by decide) rfl (fun _ => ?_) (fun hn => absurd hn g8)
      refine x_iconst (pc' := 33) (x := 0) dX12_areOne_32 (by decide) rfl ?_
      obtain rfl := Option.some.inj h
      exact x_zret dX12_areOne_33 rfl (Or.inl rfl) rfl (Nat.le_of_ble_eq_true rfl) rfl
def F_X12_safe_111 (K31 : Int32 → Int32 → Int32 → Int32 → Int32 → (Nat → Nat → Int32) → (Nat → Nat → Int64) → xRr → Option (Int32 × xSt)) (K45 : Int32 → Int32 → Int32 → Int32 → Int32 → Int32 → (Nat → Nat → Int32) → (Nat → Nat → Int64) → xRr → Option (Int32 × xSt)) (v1 : Int32) (v2 : Int32) (v3 : Int32) (v5 : Int32) (v6 : Int32) (s0 : Int32) (hi : Nat → Nat → Int32) (hl : Nat → Nat → Int64) (r : xRr) : Option (Int32 × xSt) := K45 v1 v2 v3 s0 v5 (v6 + (1)) hi hl r
set_option maxRecDepth 20000 in
set_option maxHeartbeats 2000000 in
theorem r_X12_safe_111 (K31 : Int32 → Int32 → Int32 → Int32 → Int32 → (Nat → Nat → Int32) → (Nat → Nat → Int64) → xRr → Option (Int32 × xSt)) (hK31 : ∀ (v1 : Int32) (v2 : Int32) (v3 : Int32) (v4 : Int32) (v5 : Int32) (d6 : Option Value) (hi : Nat → Nat → Int32) (hl : Nat → Nat → Int64) (r : xRr) (o : Int32 × xSt), K31 v1 v2 v3 v4 v5 hi hl r = some o → xR (RX12, cX12_safe, 7, false, 1) (4, 0, 0) z 0 0 31 [some (.ref 90), some (.int v1), some (.int v2), some (.int v3), some (.int v4), some (.int v5), d6] [] (xhp hi hl r) (xoI o)) (K45 : Int32 → Int32 → Int32 → Int32 → Int32 → Int32 → (Nat → Nat → Int32) → (Nat → Nat → Int64) → xRr → Option (Int32 × xSt)) (hK45 : ∀ (v1 : Int32) (v2 : Int32) (v3 : Int32) (v4 : Int32) (v5 : Int32) (v6 : Int32) (hi : Nat → Nat → Int32) (hl : Nat → Nat → Int64) (r : xRr) (o : Int32 × xSt), K45 v1 v2 v3 v4 v5 v6 hi hl r = some o → xR (RX12, cX12_safe, 7, false, 1) (4, 0, 0) z 0 0 45 [some (.ref 90), some (.int v1), some (.int v2), some (.int v3), some (.int v4), some (.int v5), some (.int v6)] [] (xhp hi hl r) (xoI o)) (v1 : Int32) (v2 : Int32) (v3 : Int32) (v5 : Int32) (v6 : Int32) (s0 : Int32) (d4 : Option Value) (hi : Nat → Nat → Int32) (hl : Nat → Nat → Int64) (r : xRr) (o : Int32 × xSt) (h : F_X12_safe_111 K31 K45 v1 v2 v3 v5 v6 s0 hi hl r = some o) : xR (RX12, cX12_safe, 7, false, 1) (4, 0, 0) z 0 0 111 [some (.ref 90), some (.int v1), some (.int v2), some (.int v3), d4, some (.int v5), some (.int v6)] [.int s0] (xhp hi hl r) (xoI o) := by
  refine x_istore (pc' := 113) (L' := [some (.ref 90), some (.int v1), some (.int v2), some (.int v3), some (.int s0), some (.int v5), some (.int v6)]) dX12_safe_111 (Nat.le_of_ble_eq_true rfl) rfl rfl ?_
  refine x_iinc (pc' := 116) (v := (v6 + (1))) (L' := [some (.ref 90), some (.int v1), some (.int v2), some (.int v3), some (.int s0), some (.int v5), some (.int (v6 + (1)))]) dX12_safe_113 rfl rfl (Nat.le_of_ble_eq_true rfl) rfl rfl ?_
  refine x_goto (tgt := 45) dX12_safe_116 (by decide) ?_
  exact hK45 _ _ _ _ _ _ _ _ _ _ h
def F_X12_safe_110 (K31 : Int32 → Int32 → Int32 → Int32 → Int32 → (Nat → Nat → Int32) → (Nat → Nat → Int64) → xRr → Option (Int32 × xSt)) (K45 : Int32 → Int32 → Int32 → Int32 → Int32 → Int32 → (Nat → Nat → Int32) → (Nat → Nat → Int64) → xRr → Option (Int32 × xSt)) (v1 : Int32) (v2 : Int32) (v3 : Int32) (v5 : Int32) (v6 : Int32) (hi : Nat → Nat → Int32) (hl : Nat → Nat → Int64) (r : xRr) : Option (Int32 × xSt) := F_X12_safe_111 K31 K45 v1 v2 v3 v5 v6 (0 : Int32) hi hl r
set_option maxRecDepth 20000 in
set_option maxHeartbeats 2000000 in
theorem r_X12_safe_110 (K31 : Int32 → Int32 → Int32 → Int32 → Int32 → (Nat → Nat → Int32) → (Nat → Nat → Int64) → xRr → Option (Int32 × xSt)) (hK31 : ∀ (v1 : Int32) (v2 : Int32) (v3 : Int32) (v4 : Int32) (v5 : Int32) (d6 : Option Value) (hi : Nat → Nat → Int32) (hl : Nat → Nat → Int64) (r : xRr) (o : Int32 × xSt), K31 v1 v2 v3 v4 v5 hi hl r = some o → xR (RX12, cX12_safe, 7, false, 1) (4, 0, 0) z 0 0 31 [some (.ref 90), some (.int v1), some (.int v2), some (.int v3), some (.int v4), some (.int v5), d6] [] (xhp hi hl r) (xoI o)) (K45 : Int32 → Int32 → Int32 → Int32 → Int32 → Int32 → (Nat → Nat → Int32) → (Nat → Nat → Int64) → xRr → Option (Int32 × xSt)) (hK45 : ∀ (v1 : Int32) (v2 : Int32) (v3 : Int32) (v4 : Int32) (v5 : Int32) (v6 : Int32) (hi : Nat → Nat → Int32) (hl : Nat → Nat → Int64) (r : xRr) (o : Int32 × xSt), K45 v1 v2 v3 v4 v5 v6 hi hl r = some o → xR (RX12, cX12_safe, 7, false, 1) (4, 0, 0) z 0 0 45 [some (.ref 90), some (.int v1), some (.int v2), some (.int v3), some (.int v4), some (.int v5), some (.int v6)] [] (xhp hi hl r) (xoI o)) (v1 : Int32) (v2 : Int32) (v3 : Int32) (v5 : Int32) (v6 : Int32) (d4 : Option Value) (hi : Nat → Nat → Int32) (hl : Nat → Nat → Int64) (r : xRr) (o : Int32 × xSt) (h : F_X12_safe_110 K31 K45 v1 v2 v3 v5 v6 hi hl r = some o) : xR (RX12, cX12_safe, 7, false, 1) (4, 0, 0) z 0 0 110 [some (.ref 90), some (.int v1), some (.int v2), some (.int v3), d4, some (.int v5), some (.int v6)] [] (xhp hi hl r) (xoI o) := by
  refine x_iconst (pc' := 111) (x := 0) dX12_safe_110 (by decide) rfl ?_
  exact r_X12_safe_111 K31 hK31 K45 hK45 _ _ _ _ _ _ _ _ _ _ _ h
def F_X12_safe_74 (K31 : Int32 → Int32 → Int32 → Int32 → Int32 → (Nat → Nat → Int32) → (Nat → Nat → Int64) → xRr → Option (Int32 × xSt)) (K45 : Int32 → Int32 → Int32 → Int32 → Int32 → Int32 → (Nat → Nat → Int32) → (Nat → Nat → Int64) → xRr → Option (Int32 × xSt)) (v1 : Int32) (v2 : Int32) (v4 : Int32) (v5 : Int32) (v6 : Int32) (s0 : Int32) (hi : Nat → Nat → Int32) (hl : Nat → Nat → Int64) (r : xRr) : Option (Int32 × xSt) := if v4 = 0 then F_X12_safe_110 K31 K45 v1 v2 s0 v5 v6 hi hl r else xbI (F_X12_areOne v1 v6 v2 v5 hi hl r) (fun w3 hi3 hl3 r3 => if w3 = 0 then xbI (F_X12_areOne v2 v5 v2 v6 hi3 hl3 r3) (fun w6 hi6 hl6 r6 => if w6 = 0 then F_X12_safe_111 K31 K45 v1 v2 s0 v5 v6 (1 : Int32) hi6 hl6 r6 else F_X12_safe_110 K31 K45 v1 v2 s0 v5 v6 hi6 hl6 r6) else F_X12_safe_110 K31 K45 v1 v2 s0 v5 v6 hi3 hl3 r3)
set_option maxRecDepth 20000 in
set_option maxHeartbeats 2000000 in
theorem r_X12_safe_74 (K31 : Int32 → Int32 → Int32 → Int32 → Int32 → (Nat → Nat → Int32) → (Nat → Nat → Int64) → xRr → Option (Int32 × xSt)) (hK31 : ∀ (v1 : Int32) (v2 : Int32) (v3 : Int32) (v4 : Int32) (v5 : Int32) (d6 : Option Value) (hi : Nat → Nat → Int32) (hl : Nat → Nat → Int64) (r : xRr) (o : Int32 × xSt), K31 v1 v2 v3 v4 v5 hi hl r = some o → xR (RX12, cX12_safe, 7, false, 1) (4, 0, 0) z 0 0 31 [some (.ref 90), some (.int v1), some (.int v2), some (.int v3), some (.int v4), some (.int v5), d6] [] (xhp hi hl r) (xoI o)) (K45 : Int32 → Int32 → Int32 → Int32 → Int32 → Int32 → (Nat → Nat → Int32) → (Nat → Nat → Int64) → xRr → Option (Int32 × xSt)) (hK45 : ∀ (v1 : Int32) (v2 : Int32) (v3 : Int32) (v4 : Int32) (v5 : Int32) (v6 : Int32) (hi : Nat → Nat → Int32) (hl : Nat → Nat → Int64) (r : xRr) (o : Int32 × xSt), K45 v1 v2 v3 v4 v5 v6 hi hl r = some o → xR (RX12, cX12_safe, 7, false, 1) (4, 0, 0) z 0 0 45 [some (.ref 90), some (.int v1), some (.int v2), some (.int v3), some (.int v4), some (.int v5), some (.int v6)] [] (xhp hi hl r) (xoI o)) (v1 : Int32) (v2 : Int32) (v4 : Int32) (v5 : Int32) (v6 : Int32) (s0 : Int32) (d3 : Option Value) (hi : Nat → Nat → Int32) (hl : Nat → Nat → Int64) (r : xRr) (o : Int32 × xSt) (h : F_X12_safe_74 K31 K45 v1 v2 v4 v5 v6 s0 hi hl r = some o) : xR (RX12, cX12_safe, 7, false, 1) (4, 0, 0) z 0 0 74 [some (.ref 90), some (.int v1), some (.int v2), d3, some (.int v4), some (.int v5), some (.int v6)] [.int s0] (xhp hi hl r) (xoI o) := by
  refine x_istore_n (pc' := 75) (L' := [some (.ref 90), some (.int v1), some (.int v2), some (.int s0), some (.int v4), some (.int v5), some (.int v6)]) dX12_safe_74 (Nat.le_of_ble_eq_true rfl) rfl rfl ?_
  refine x_iload (pc' := 77) dX12_safe_75 rfl rfl ?_
  refine xg_ite h (fun g1 h => ?_) (fun g1 h => ?_)
  · refine x_if_eq (tgt := 110) (pc' := 80) dX12_safe_77 (by decide) rfl (fun _ => ?_) (fun hn => absurd g1 hn)
    exact r_X12_safe_110 K31 hK31 K45 hK45 _ _ _ _ _ _ _ _ _ _ h
  · refine x_if_eq (tgt := 110) (pc' := 80) dX12_safe_77 (by decide) rfl (fun hn => absurd hn g1) (fun _ => ?_)
    refine x_aload_n (pc' := 81) dX12_safe_80 rfl rfl ?_
    refine x_iload_n (pc' := 82) dX12_safe_81 rfl rfl ?_
    refine x_iload (pc' := 84) dX12_safe_82 rfl rfl ?_
    refine x_iload_n (pc' := 85) dX12_safe_84 rfl rfl ?_
    refine x_iload (pc' := 87) dX12_safe_85 rfl rfl ?_
    refine xg_bI h (fun w3 hi3 hl3 r3 e2 h => ?_)
    refine x_callV (pc' := 90) (S := []) (As := [.int v1, .int v6, .int v2, .int v5]) (b' := (3, 0, 0)) dX12_safe_87 l_X12_352 m_X12_areOne rfl rfl (show 90 < 122 by decide) rfl (Nat.le_of_ble_eq_true rfl) (Nat.le_of_ble_eq_true rfl) (Nat.le_of_ble_eq_true rfl) (Nat.le_of_ble_eq_true rfl) (r_X12_areOne _ _ _ _ _ _ _ _ e2) rfl ?_
    refine xg_ite h (fun g4 h => ?_) (fun g4 h => ?_)
    · refine x_if_ne (tgt := 110) (pc' := 93) dX12_safe_90 (by decide) rfl (fun hn => absurd g4 hn) (fun _ => ?_)
      refine x_aload_n (pc' := 94) dX12_safe_93 rfl rfl ?_
      refine x_iload_n (pc' := 95) dX12_safe_94 rfl rfl ?_
      refine x_iload (pc' := 97) dX12_safe_95 rfl rfl ?_
      refine x_iload_n (pc' := 98) dX12_safe_97 rfl rfl ?_
      refine x_iload (pc' := 100) dX12_safe_98 rfl rfl ?_
      refine xg_bI h (fun w6 hi6 hl6 r6 e5 h => ?_)
      refine x_callV (pc' := 103) (S := []) (As := [.int v2, .int v5, .int v2, .int v6]) (b' := (3, 0, 0)) dX12_safe_100 l_X12_352 m_X12_areOne rfl rfl (show 90 < 122 by decide) rfl (Nat.le_of_ble_eq_true rfl) (Nat.le_of_ble_eq_true rfl) (Nat.le_of_ble_eq_true rfl) (Nat.le_of_ble_eq_true rfl) (r_X12_areOne _ _ _ _ _ _ _ _ e5) rfl ?_
      refine xg_ite h (fun g7 h => ?_) (fun g7 h => ?_)
      · refine x_if_ne (tgt := 110) (pc' := 106) dX12_safe_103 (by decide) rfl (fun hn => absurd g7 hn) (fun _ => ?_)
        refine x_iconst (pc' := 107) (x := 1) dX12_safe_106 (by decide) rfl ?_
        refine x_goto (tgt := 111) dX12_safe_107 (by decide) ?_
        exact r_X12_safe_111 K31 hK31 K45 hK45 _ _ _ _ _ _ _ _ _ _ _ h
      · refine x_if_ne (tgt := 110) (pc' := 106) dX12_safe_103 (by decide) rfl (fun _ => ?_) (fun hn => absurd hn g7)
        exact r_X12_safe_110 K31 hK31 K45 hK45 _ _ _ _ _ _ _ _ _ _ h
    · refine x_if_ne (tgt := 110) (pc' := 93) dX12_safe_90 (by decide) rfl (fun _ => ?_) (fun hn => absurd hn g4)
      exact r_X12_safe_110 K31 hK31 K45 hK45 _ _ _ _ _ _ _ _ _ _ h
def F_X12_safe_73 (K31 : Int32 → Int32 → Int32 → Int32 → Int32 → (Nat → Nat → Int32) → (Nat → Nat → Int64) → xRr → Option (Int32 × xSt)) (K45 : Int32 → Int32 → Int32 → Int32 → Int32 → Int32 → (Nat → Nat → Int32) → (Nat → Nat → Int64) → xRr → Option (Int32 × xSt)) (v1 : Int32) (v2 : Int32) (v4 : Int32) (v5 : Int32) (v6 : Int32) (hi : Nat → Nat → Int32) (hl : Nat → Nat → Int64) (r : xRr) : Option (Int32 × xSt) := F_X12_safe_74 K31 K45 v1 v2 v4 v5 v6 (0 : Int32) hi hl r
set_option maxRecDepth 20000 in
set_option maxHeartbeats 2000000 in
theorem r_X12_safe_73 (K31 : Int32 → Int32 → Int32 → Int32 → Int32 → (Nat → Nat → Int32) → (Nat → Nat → Int64) → xRr → Option (Int32 × xSt)) (hK31 : ∀ (v1 : Int32) (v2 : Int32) (v3 : Int32) (v4 : Int32) (v5 : Int32) (d6 : Option Value) (hi : Nat → Nat → Int32) (hl : Nat → Nat → Int64) (r : xRr) (o : Int32 × xSt), K31 v1 v2 v3 v4 v5 hi hl r = some o → xR (RX12, cX12_safe, 7, false, 1) (4, 0, 0) z 0 0 31 [some (.ref 90), some (.int v1), some (.int v2), some (.int v3), some (.int v4), some (.int v5), d6] [] (xhp hi hl r) (xoI o)) (K45 : Int32 → Int32 → Int32 → Int32 → Int32 → Int32 → (Nat → Nat → Int32) → (Nat → Nat → Int64) → xRr → Option (Int32 × xSt)) (hK45 : ∀ (v1 : Int32) (v2 : Int32) (v3 : Int32) (v4 : Int32) (v5 : Int32) (v6 : Int32) (hi : Nat → Nat → Int32) (hl : Nat → Nat → Int64) (r : xRr) (o : Int32 × xSt), K45 v1 v2 v3 v4 v5 v6 hi hl r = some o → xR (RX12, cX12_safe, 7, false, 1) (4, 0, 0) z 0 0 45 [some (.ref 90), some (.int v1), some (.int v2), some (.int v3), some (.int v4), some (.int v5), some (.int v6)] [] (xhp hi hl r) (xoI o)) (v1 : Int32) (v2 : Int32) (v4 : Int32) (v5 : Int32) (v6 : Int32) (d3 : Option Value) (hi : Nat → Nat → Int32) (hl : Nat → Nat → Int64) (r : xRr) (o : Int32 × xSt) (h : F_X12_safe_73 K31 K45 v1 v2 v4 v5 v6 hi hl r = some o) : xR (RX12, cX12_safe, 7, false, 1) (4, 0, 0) z 0 0 73 [some (.ref 90), some (.int v1), some (.int v2), d3, some (.int v4), some (.int v5), some (.int v6)] [] (xhp hi hl r) (xoI o) := by
  refine x_iconst (pc' := 74) (x := 0) dX12_safe_73 (by decide) rfl ?_
  exact r_X12_safe_74 K31 hK31 K45 hK45 _ _ _ _ _ _ _ _ _ _ _ h
def F_X12_safe_45 (K31 : Int32 → Int32 → Int32 → Int32 → Int32 → (Nat → Nat → Int32) → (Nat → Nat → Int64) → xRr → Option (Int32 × xSt)) : Nat → Int32 → Int32 → Int32 → Int32 → Int32 → Int32 → (Nat → Nat → Int32) → (Nat → Nat → Int64) → xRr → Option (Int32 × xSt)
  | 0, _, _, _, _, _, _, _, _, _ => none
  | n + 1, v1, v2, v3, v4, v5, v6, hi, hl, r => if v5 ≤ v6 then K31 v1 v2 v3 v4 (v5 + (1)) hi hl r else if v3 = 0 then F_X12_safe_73 K31 (F_X12_safe_45 K31 n) v1 v2 v4 v5 v6 hi hl r else xbI (F_X12_areOne v1 v5 v2 v6 hi hl r) (fun w4 hi4 hl4 r4 => if w4 = 0 then F_X12_safe_74 K31 (F_X12_safe_45 K31 n) v1 v2 v4 v5 v6 (1 : Int32) hi4 hl4 r4 else F_X12_safe_73 K31 (F_X12_safe_45 K31 n) v1 v2 v4 v5 v6 hi4 hl4 r4)
set_option maxRecDepth 20000 in
set_option maxHeartbeats 2000000 in
theorem r_X12_safe_45 (K31 : Int32 → Int32 → Int32 → Int32 → Int32 → (Nat → Nat → Int32) → (Nat → Nat → Int64) → xRr → Option (Int32 × xSt)) (hK31 : ∀ (v1 : Int32) (v2 : Int32) (v3 : Int32) (v4 : Int32) (v5 : Int32) (d6 : Option Value) (hi : Nat → Nat → Int32) (hl : Nat → Nat → Int64) (r : xRr) (o : Int32 × xSt), K31 v1 v2 v3 v4 v5 hi hl r = some o → xR (RX12, cX12_safe, 7, false, 1) (4, 0, 0) z 0 0 31 [some (.ref 90), some (.int v1), some (.int v2), some (.int v3), some (.int v4), some (.int v5), d6] [] (xhp hi hl r) (xoI o)) : ∀ (n : Nat) (v1 : Int32) (v2 : Int32) (v3 : Int32) (v4 : Int32) (v5 : Int32) (v6 : Int32) (hi : Nat → Nat → Int32) (hl : Nat → Nat → Int64) (r : xRr) (o : Int32 × xSt), F_X12_safe_45 K31 n v1 v2 v3 v4 v5 v6 hi hl r = some o → xR (RX12, cX12_safe, 7, false, 1) (4, 0, 0) z 0 0 45 [some (.ref 90), some (.int v1), some (.int v2), some (.int v3), some (.int v4), some (.int v5), some (.int v6)] [] (xhp hi hl r) (xoI o) := by
  intro n
  induction n with
  | zero =>
    intro v1 v2 v3 v4 v5 v6 hi hl r o h
    have h : none = some o := h
    cases h
  | succ n ih =>
    intro v1 v2 v3 v4 v5 v6 hi hl r o h
    refine x_iload (pc' := 47) dX12_safe_45 rfl rfl ?_
    refine x_iload (pc' := 49) dX12_safe_47 rfl rfl ?_
    refine xg_ite h (fun g1 h => ?_) (fun g1 h => ?_)
    · refine x_icmp_ge (tgt := 119) (pc' := 52) dX12_safe_49 (by decide) rfl (fun _ => ?_) (fun hn => absurd g1 hn)
      refine x_iinc (pc' := 122) (v := (v5 + (1))) (L' := [some (.ref 90), some (.int v1), some (.int v2), some (.int v3), some (.int v4), some (.int (v5 + (1))), some (.int v6)]) dX12_safe_119 rfl rfl (Nat.le_of_ble_eq_true rfl) rfl rfl ?_
      refine x_goto (tgt := 31) dX12_safe_122 (by decide) ?_
      exact hK31 _ _ _ _ _ _ _ _ _ _ h
    · refine x_icmp_ge (tgt := 119) (pc' := 52) dX12_safe_49 (by decide) rfl (fun hn => absurd hn g1) (fun _ => ?_)
      refine x_iload_n (pc' := 53) dX12_safe_52 rfl rfl ?_
      refine xg_ite h (fun g2 h => ?_) (fun g2 h => ?_)
      · refine x_if_eq (tgt := 73) (pc' := 56) dX12_safe_53 (by decide) rfl (fun _ => ?_) (fun hn => absurd g2 hn)
        exact r_X12_safe_73 K31 hK31 (F_X12_safe_45 K31 n) ih _ _ _ _ _ _ _ _ _ _ h
      · refine x_if_eq (tgt := 73) (pc' := 56) dX12_safe_53 (by decide) rfl (fun hn => absurd hn g2) (fun _ => ?_)
        refine x_aload_n (pc' := 57) dX12_safe_56 rfl rfl ?_
        refine x_iload_n (pc' := 58) dX12_safe_57 rfl rfl ?_
        refine x_iload (pc' := 60) dX12_safe_58 rfl rfl ?_
        refine x_iload_n (pc' := 61) dX12_safe_60 rfl rfl ?_
        refine x_iload (pc' := 63) dX12_safe_61 rfl rfl ?_
        refine xg_bI h (fun w4 hi4 hl4 r4 e3 h => ?_)
        refine x_callV (pc' := 66) (S := []) (As := [.int v1, .int v5, .int v2, .int v6]) (b' := (3, 0, 0)) dX12_safe_63 l_X12_352 m_X12_areOne rfl rfl (show 90 < 122 by decide) rfl (Nat.le_of_ble_eq_true rfl) (Nat.le_of_ble_eq_true rfl) (Nat.le_of_ble_eq_true rfl) (Nat.le_of_ble_eq_true rfl) (r_X12_areOne _ _ _ _ _ _ _ _ e3) rfl ?_
        refine xg_ite h (fun g5 h => ?_) (fun g5 h => ?_)
        · refine x_if_ne (tgt := 73) (pc' := 69) dX12_safe_66 (by decide) rfl (fun hn => absurd g5 hn) (fun _ => ?_)
          refine x_iconst (pc' := 70) (x := 1) dX12_safe_69 (by decide) rfl ?_
          refine x_goto (tgt := 74) dX12_safe_70 (by decide) ?_
          exact r_X12_safe_74 K31 hK31 (F_X12_safe_45 K31 n) ih _ _ _ _ _ _ _ _ _ _ _ h
        · refine x_if_ne (tgt := 73) (pc' := 69) dX12_safe_66 (by decide) rfl (fun _ => ?_) (fun hn => absurd hn g5)
          exact r_X12_safe_73 K31 hK31 (F_X12_safe_45 K31 n) ih _ _ _ _ _ _ _ _ _ _ h
def F_X12_safe_144 (s0 : Int32) (s1 : Int32) (hi : Nat → Nat → Int32) (hl : Nat → Nat → Int64) (r : xRr) : Option (Int32 × xSt) := some ((s0 + s1), hi, hl, r)
set_option maxRecDepth 20000 in
set_option maxHeartbeats 2000000 in
theorem r_X12_safe_144 (s0 : Int32) (s1 : Int32) (d1 : Option Value) (d2 : Option Value) (d3 : Option Value) (d4 : Option Value) (d5 : Option Value) (d6 : Option Value) (hi : Nat → Nat → Int32) (hl : Nat → Nat → Int64) (r : xRr) (o : Int32 × xSt) (h : F_X12_safe_144 s0 s1 hi hl r = some o) : xR (RX12, cX12_safe, 7, false, 1) (4, 0, 0) z 0 0 144 [some (.ref 90), d1, d2, d3, d4, d5, d6] [.int s1, .int s0] (xhp hi hl r) (xoI o) := by
  refine x_iadd (pc' := 145) dX12_safe_144 rfl ?_
  obtain rfl := Option.some.inj h
  exact x_iret dX12_safe_145 rfl rfl (Nat.le_of_ble_eq_true rfl) rfl
def F_X12_safe_134 (v4 : Int32) (s0 : Int32) (hi : Nat → Nat → Int32) (hl : Nat → Nat → Int64) (r : xRr) : Option (Int32 × xSt) := if v4 = 0 then F_X12_safe_144 s0 (0 : Int32) hi hl r else F_X12_safe_144 s0 (2 : Int32) hi hl r
set_option maxRecDepth 20000 in
set_option maxHeartbeats 2000000 in
theorem r_X12_safe_134 (v4 : Int32) (s0 : Int32) (d1 : Option Value) (d2 : Option Value) (d3 : Option Value) (d5 : Option Value) (d6 : Option Value) (hi : Nat → Nat → Int32) (hl : Nat → Nat → Int64) (r : xRr) (o : Int32 × xSt) (h : F_X12_safe_134 v4 s0 hi hl r = some o) : xR (RX12, cX12_safe, 7, false, 1) (4, 0, 0) z 0 0 134 [some (.ref 90), d1, d2, d3, some (.int v4), d5, d6] [.int s0] (xhp hi hl r) (xoI o) := by
  refine x_iload (pc' := 136) dX12_safe_134 rfl rfl ?_
  refine xg_ite h (fun g1 h => ?_) (fun g1 h => ?_)
  · refine x_if_eq (tgt := 143) (pc' := 139) dX12_safe_136 (by decide) rfl (fun _ => ?_) (fun hn => absurd g1 hn)
    refine x_iconst (pc' := 144) (x := 0) dX12_safe_143 (by decide) rfl ?_
    exact r_X12_safe_144 _ _ _ _ _ _ _ _ _ _ _ _ h
  · refine x_if_eq (tgt := 143) (pc' := 139) dX12_safe_136 (by decide) rfl (fun hn => absurd hn g1) (fun _ => ?_)
    refine x_iconst (pc' := 140) (x := 2) dX12_safe_139 (by decide) rfl ?_
    refine x_goto (tgt := 144) dX12_safe_140 (by decide) ?_
    exact r_X12_safe_144 _ _ _ _ _ _ _ _ _ _ _ _ h
def F_X12_safe_31 : Nat → Int32 → Int32 → Int32 → Int32 → Int32 → (Nat → Nat → Int32) → (Nat → Nat → Int64) → xRr → Option (Int32 × xSt)
  | 0, _, _, _, _, _, _, _, _ => none
  | n + 1, v1, v2, v3, v4, v5, hi, hl, r => xbI (F_X12_lesser v1 v2 hi hl r) (fun w2 hi2 hl2 r2 => if w2 ≤ v5 then if v3 = 0 then F_X12_safe_134 v4 (0 : Int32) hi2 hl2 r2 else F_X12_safe_134 v4 (1 : Int32) hi2 hl2 r2 else F_X12_safe_45 (F_X12_safe_31 n) 1000000 v1 v2 v3 v4 v5 (0 : Int32) hi2 hl2 r2)
set_option maxRecDepth 20000 in
set_option maxHeartbeats 2000000 in
theorem r_X12_safe_31 : ∀ (n : Nat) (v1 : Int32) (v2 : Int32) (v3 : Int32) (v4 : Int32) (v5 : Int32) (d6 : Option Value) (hi : Nat → Nat → Int32) (hl : Nat → Nat → Int64) (r : xRr) (o : Int32 × xSt), F_X12_safe_31 n v1 v2 v3 v4 v5 hi hl r = some o → xR (RX12, cX12_safe, 7, false, 1) (4, 0, 0) z 0 0 31 [some (.ref 90), some (.int v1), some (.int v2), some (.int v3), some (.int v4), some (.int v5), d6] [] (xhp hi hl r) (xoI o) := by
  intro n
  induction n with
  | zero =>
    intro v1 v2 v3 v4 v5 d6 hi hl r o h
    have h : none = some o := h
    cases h
  | succ n ih =>
    intro v1 v2 v3 v4 v5 d6 hi hl r o h
    refine x_iload (pc' := 33) dX12_safe_31 rfl rfl ?_
    refine x_aload_n (pc' := 34) dX12_safe_33 rfl rfl ?_
    refine x_iload_n (pc' := 35) dX12_safe_34 rfl rfl ?_
    refine x_iload_n (pc' := 36) dX12_safe_35 rfl rfl ?_
    refine xg_bI h (fun w2 hi2 hl2 r2 e1 h => ?_)
    refine x_callV (pc' := 39) (S := [.int v5]) (As := [.int v1, .int v2]) (b' := (0, 0, 0)) dX12_safe_36 l_X12_284 m_X12_lesser rfl rfl (show 90 < 122 by decide) rfl (Nat.le_of_ble_eq_true rfl) (Nat.le_of_ble_eq_true rfl) (Nat.le_of_ble_eq_true rfl) (Nat.le_of_ble_eq_true rfl) (r_X12_lesser _ _ _ _ _ _ e1) rfl ?_
    refine xg_ite h (fun g3 h => ?_) (fun g3 h => ?_)
    · refine x_icmp_ge (tgt := 125) (pc' := 42) dX12_safe_39 (by decide) rfl (fun _ => ?_) (fun hn => absurd g3 hn)
      refine x_iload_n (pc' := 126) dX12_safe_125 rfl rfl ?_
      refine xg_ite h (fun g4 h => ?_) (fun g4 h => ?_)
      · refine x_if_eq (tgt := 133) (pc' := 129) dX12_safe_126 (by decide) rfl (fun _ => ?_) (fun hn => absurd g4 hn)
        refine x_iconst (pc' := 134) (x := 0) dX12_safe_133 (by decide) rfl ?_
        exact r_X12_safe_134 _ _ _ _ _ _ _ _ _ _ _ h
      · refine x_if_eq (tgt := 133) (pc' := 129) dX12_safe_126 (by decide) rfl (fun hn => absurd hn g4) (fun _ => ?_)
        refine x_iconst (pc' := 130) (x := 1) dX12_safe_129 (by decide) rfl ?_
        refine x_goto (tgt := 134) dX12_safe_130 (by decide) ?_
        exact r_X12_safe_134 _ _ _ _ _ _ _ _ _ _ _ h
    · refine x_icmp_ge (tgt := 125) (pc' := 42) dX12_safe_39 (by decide) rfl (fun hn => absurd hn g3) (fun _ => ?_)
      refine x_iconst (pc' := 43) (x := 0) dX12_safe_42 (by decide) rfl ?_
      refine x_istore (pc' := 45) (L' := [some (.ref 90), some (.int v1), some (.int v2), some (.int v3), some (.int v4), some (.int v5), some (.int (0 : Int32))]) dX12_safe_43 (Nat.le_of_ble_eq_true rfl) rfl rfl ?_
      exact r_X12_safe_45 (F_X12_safe_31 n) ih 1000000 _ _ _ _ _ _ _ _ _ _ h
def F_X12_safe (v1 : Int32) (v2 : Int32) (hi : Nat → Nat → Int32) (hl : Nat → Nat → Int64) (r : xRr) : Option (Int32 × xSt) := xbI (F_X12_isView v1 (xu hi 90 0 (0 : Int32)) hl r) (fun w2 hi2 hl2 r2 => if w2 = 0 then some (((-1) : Int32), hi2, hl2, r2) else xbI (F_X12_isView v2 hi2 hl2 r2) (fun w5 hi5 hl5 r5 => if w5 = 0 then some (((-1) : Int32), hi5, hl5, r5) else F_X12_safe_31 1000000 v1 v2 (1 : Int32) (1 : Int32) (0 : Int32) hi5 hl5 r5))
set_option maxRecDepth 20000 in
set_option maxHeartbeats 2000000 in
theorem r_X12_safe (v1 : Int32) (v2 : Int32) (hi : Nat → Nat → Int32) (hl : Nat → Nat → Int64) (r : xRr) (o : Int32 × xSt) (h : F_X12_safe v1 v2 hi hl r = some o) : xM yX12_safe cX12_safe 7 1 (4, 0, 0) z [.ref 90, .int v1, .int v2] (xhp hi hl r) (xoI o) := by
  refine x_meth2 (C := RX12) (ini := false) (L := [some (.ref 90), some (.int v1), some (.int v2), none, none, none, none]) rfl (by decide) (fun h9 => by cases h9) (by decide) (Nat.le_of_ble_eq_true rfl) rfl ?_
  refine x_aload_n (pc' := 1) dX12_safe_0 rfl rfl ?_
  refine x_iconst (pc' := 2) (x := 0) dX12_safe_1 (by decide) rfl ?_
  refine x_puti (pc' := 5) dX12_safe_2 f_X12_109 (Or.inl rfl) (by decide) rfl rfl rfl ?_
  refine x_aload_n (pc' := 6) dX12_safe_5 rfl rfl ?_
  refine x_iload_n (pc' := 7) dX12_safe_6 rfl rfl ?_
  refine xg_bI h (fun w2 hi2 hl2 r2 e1 h => ?_)
  refine x_callV (pc' := 10) (S := []) (As := [.int v1]) (b' := (1, 0, 0)) dX12_safe_7 l_X12_152 m_X12_isView rfl rfl (show 90 < 122 by decide) rfl (Nat.le_of_ble_eq_true rfl) (Nat.le_of_ble_eq_true rfl) (Nat.le_of_ble_eq_true rfl) (Nat.le_of_ble_eq_true rfl) (r_X12_isView _ _ _ _ _ e1) rfl ?_
  refine xg_ite h (fun g3 h => ?_) (fun g3 h => ?_)
  · refine x_if_eq (tgt := 21) (pc' := 13) dX12_safe_10 (by decide) rfl (fun _ => ?_) (fun hn => absurd g3 hn)
    refine x_iconst (pc' := 22) (x := (-1)) dX12_safe_21 (by decide) rfl ?_
    obtain rfl := Option.some.inj h
    exact x_iret dX12_safe_22 rfl rfl (Nat.le_of_ble_eq_true rfl) rfl
  · refine x_if_eq (tgt := 21) (pc' := 13) dX12_safe_10 (by decide) rfl (fun hn => absurd hn g3) (fun _ => ?_)
    refine x_aload_n (pc' := 14) dX12_safe_13 rfl rfl ?_
    refine x_iload_n (pc' := 15) dX12_safe_14 rfl rfl ?_
    refine xg_bI h (fun w5 hi5 hl5 r5 e4 h => ?_)
    refine x_callV (pc' := 18) (S := []) (As := [.int v2]) (b' := (1, 0, 0)) dX12_safe_15 l_X12_152 m_X12_isView rfl rfl (show 90 < 122 by decide) rfl (Nat.le_of_ble_eq_true rfl) (Nat.le_of_ble_eq_true rfl) (Nat.le_of_ble_eq_true rfl) (Nat.le_of_ble_eq_true rfl) (r_X12_isView _ _ _ _ _ e4) rfl ?_
    refine xg_ite h (fun g6 h => ?_) (fun g6 h => ?_)
    · refine x_if_ne (tgt := 23) (pc' := 21) dX12_safe_18 (by decide) rfl (fun hn => absurd g6 hn) (fun _ => ?_)
      refine x_iconst (pc' := 22) (x := (-1)) dX12_safe_21 (by decide) rfl ?_
      obtain rfl := Option.some.inj h
      exact x_iret dX12_safe_22 rfl rfl (Nat.le_of_ble_eq_true rfl) rfl
    · refine x_if_ne (tgt := 23) (pc' := 21) dX12_safe_18 (by decide) rfl (fun _ => ?_) (fun hn => absurd hn g6)
      refine x_iconst (pc' := 24) (x := 1) dX12_safe_23 (by decide) rfl ?_
      refine x_istore_n (pc' := 25) (L' := [some (.ref 90), some (.int v1), some (.int v2), some (.int (1 : Int32)), none, none, none]) dX12_safe_24 (Nat.le_of_ble_eq_true rfl) rfl rfl ?_
      refine x_iconst (pc' := 26) (x := 1) dX12_safe_25 (by decide) rfl ?_
      refine x_istore (pc' := 28) (L' := [some (.ref 90), some (.int v1), some (.int v2), some (.int (1 : Int32)), some (.int (1 : Int32)), none, none]) dX12_safe_26 (Nat.le_of_ble_eq_true rfl) rfl rfl ?_
      refine x_iconst (pc' := 29) (x := 0) dX12_safe_28 (by decide) rfl ?_
      refine x_istore (pc' := 31) (L' := [some (.ref 90), some (.int v1), some (.int v2), some (.int (1 : Int32)), some (.int (1 : Int32)), some (.int (0 : Int32)), none]) dX12_safe_29 (Nat.le_of_ble_eq_true rfl) rfl rfl ?_
      exact r_X12_safe_31 1000000 _ _ _ _ _ _ _ _ _ _ h
def F_X12_sees (v1 : Int32) (v2 : Int32) (hi : Nat → Nat → Int32) (hl : Nat → Nat → Int64) (r : xRr) : Option (Int32 × xSt) := xbP (F_X12_in (Int32.toInt64 v1) (0 : Int64) (25 : Int64)) (fun w2 => if w2 = 0 then some (((-1) : Int32), (xu hi 90 0 (0 : Int32)), hl, r) else xbP (F_X12_in (Int32.toInt64 v2) (0 : Int64) (3 : Int64)) (fun w5 => if w5 = 0 then some (((-1) : Int32), (xu hi 90 0 (0 : Int32)), hl, r) else if ((xu hi 90 0 (0 : Int32)) 90 26) = (6 : Int32) then some (((-3) : Int32), (xu hi 90 0 (0 : Int32)), hl, r) else if xok ((xu hi 90 0 (0 : Int32)) 90 26) 6 = true then if xok ((xu (xu hi 90 0 (0 : Int32)) 110 (Int32.toNatClampNeg ((xu hi 90 0 (0 : Int32)) 90 26)) v1) 90 26) 6 = true then some (((xu (xu (xu (xu hi 90 0 (0 : Int32)) 110 (Int32.toNatClampNeg ((xu hi 90 0 (0 : Int32)) 90 26)) v1) 111 (Int32.toNatClampNeg ((xu (xu hi 90 0 (0 : Int32)) 110 (Int32.toNatClampNeg ((xu hi 90 0 (0 : Int32)) 90 26)) v1) 90 26)) v2) 90 26 (((xu (xu (xu hi 90 0 (0 : Int32)) 110 (Int32.toNatClampNeg ((xu hi 90 0 (0 : Int32)) 90 26)) v1) 111 (Int32.toNatClampNeg ((xu (xu hi 90 0 (0 : Int32)) 110 (Int32.toNatClampNeg ((xu hi 90 0 (0 : Int32)) 90 26)) v1) 90 26)) v2) 90 26) + (1 : Int32))) 90 26), (xu (xu (xu (xu hi 90 0 (0 : Int32)) 110 (Int32.toNatClampNeg ((xu hi 90 0 (0 : Int32)) 90 26)) v1) 111 (Int32.toNatClampNeg ((xu (xu hi 90 0 (0 : Int32)) 110 (Int32.toNatClampNeg ((xu hi 90 0 (0 : Int32)) 90 26)) v1) 90 26)) v2) 90 26 (((xu (xu (xu hi 90 0 (0 : Int32)) 110 (Int32.toNatClampNeg ((xu hi 90 0 (0 : Int32)) 90 26)) v1) 111 (Int32.toNatClampNeg ((xu (xu hi 90 0 (0 : Int32)) 110 (Int32.toNatClampNeg ((xu hi 90 0 (0 : Int32)) 90 26)) v1) 90 26)) v2) 90 26) + (1 : Int32))), hl, r) else none else none))
set_option maxRecDepth 20000 in
set_option maxHeartbeats 2000000 in
theorem r_X12_sees (v1 : Int32) (v2 : Int32) (hi : Nat → Nat → Int32) (hl : Nat → Nat → Int64) (r : xRr) (o : Int32 × xSt) (h : F_X12_sees v1 v2 hi hl r = some o) : xM yX12_sees cX12_sees 3 1 (1, 0, 0) z [.ref 90, .int v1, .int v2] (xhp hi hl r) (xoI o) := by
  refine x_meth2 (C := RX12) (ini := false) (L := [some (.ref 90), some (.int v1), some (.int v2)]) rfl (by decide) (fun h9 => by cases h9) (by decide) (Nat.le_of_ble_eq_true rfl) rfl ?_
  refine x_aload_n (pc' := 1) dX12_sees_0 rfl rfl ?_
  refine x_iconst (pc' := 2) (x := 0) dX12_sees_1 (by decide) rfl ?_
  refine x_puti (pc' := 5) dX12_sees_2 f_X12_109 (Or.inl rfl) (by decide) rfl rfl rfl ?_
  refine x_iload_n (pc' := 6) dX12_sees_5 rfl rfl ?_
  refine x_i2l (pc' := 7) dX12_sees_6 rfl ?_
  refine x_lconst (pc' := 8) (x := 0) dX12_sees_7 (by decide) rfl ?_
  refine x_ldc2 (pc' := 11) dX12_sees_8 k_X12_356 rfl ?_
  refine xg_bP h (fun w2 e1 h => ?_)
  refine x_callS (pc' := 14) (S := []) (As := [.long (Int32.toInt64 v1), .long (0 : Int64), .long (25 : Int64)]) (b' := (0, 0, 0)) dX12_sees_11 l_X12_118 m_X12_in rfl rfl (Nat.le_of_ble_eq_true rfl) (Nat.le_of_ble_eq_true rfl) (Nat.le_of_ble_eq_true rfl) (Nat.le_of_ble_eq_true rfl) (r_X12_in _ _ _ _ _ e1) rfl ?_
  refine xg_ite h (fun g3 h => ?_) (fun g3 h => ?_)
  · refine x_if_eq (tgt := 29) (pc' := 17) dX12_sees_14 (by decide) rfl (fun _ => ?_) (fun hn => absurd g3 hn)
    refine x_iconst (pc' := 30) (x := (-1)) dX12_sees_29 (by decide) rfl ?_
    obtain rfl := Option.some.inj h
    exact x_iret dX12_sees_30 rfl rfl (Nat.le_of_ble_eq_true rfl) rfl
  · refine x_if_eq (tgt := 29) (pc' := 17) dX12_sees_14 (by decide) rfl (fun hn => absurd hn g3) (fun _ => ?_)
    refine x_iload_n (pc' := 18) dX12_sees_17 rfl rfl ?_
    refine x_i2l (pc' := 19) dX12_sees_18 rfl ?_
    refine x_lconst (pc' := 20) (x := 0) dX12_sees_19 (by decide) rfl ?_
    refine x_ldc2 (pc' := 23) dX12_sees_20 k_X12_161 rfl ?_
    refine xg_bP h (fun w5 e4 h => ?_)
    refine x_callS (pc' := 26) (S := []) (As := [.long (Int32.toInt64 v2), .long (0 : Int64), .long (3 : Int64)]) (b' := (0, 0, 0)) dX12_sees_23 l_X12_118 m_X12_in rfl rfl (Nat.le_of_ble_eq_true rfl) (Nat.le_of_ble_eq_true rfl) (Nat.le_of_ble_eq_true rfl) (Nat.le_of_ble_eq_true rfl) (r_X12_in _ _ _ _ _ e4) rfl ?_
    refine xg_ite h (fun g6 h => ?_) (fun g6 h => ?_)
    · refine x_if_ne (tgt := 31) (pc' := 29) dX12_sees_26 (by decide) rfl (fun hn => absurd g6 hn) (fun _ => ?_)
      refine x_iconst (pc' := 30) (x := (-1)) dX12_sees_29 (by decide) rfl ?_
      obtain rfl := Option.some.inj h
      exact x_iret dX12_sees_30 rfl rfl (Nat.le_of_ble_eq_true rfl) rfl
    · refine x_if_ne (tgt := 31) (pc' := 29) dX12_sees_26 (by decide) rfl (fun _ => ?_) (fun hn => absurd hn g6)
      refine x_aload_n (pc' := 32) dX12_sees_31 rfl rfl ?_
      refine x_geti (pc' := 35) dX12_sees_32 f_X12_175 (by decide) rfl rfl rfl ?_
      refine x_bipush (pc' := 37) (x := 6) dX12_sees_35 (by decide) rfl ?_
      refine xg_ite h (fun g7 h => ?_) (fun g7 h => ?_)
      · refine x_icmp_ne (tgt := 43) (pc' := 40) dX12_sees_37 (by decide) rfl (fun hn => absurd g7 hn) (fun _ => ?_)
        refine x_bipush (pc' := 42) (x := (-3)) dX12_sees_40 (by decide) rfl ?_
        obtain rfl := Option.some.inj h
        exact x_iret dX12_sees_42 rfl rfl (Nat.le_of_ble_eq_true rfl) rfl
      · refine x_icmp_ne (tgt := 43) (pc' := 40) dX12_sees_37 (by decide) rfl (fun _ => ?_) (fun hn => absurd hn g7)
        refine x_aload_n (pc' := 44) dX12_sees_43 rfl rfl ?_
        refine x_getr (pc' := 47) (t := 110) dX12_sees_44 f_X12_72 (by decide) rfl rfl rfl rfl ?_
        refine x_aload_n (pc' := 48) dX12_sees_47 rfl rfl ?_
        refine x_geti (pc' := 51) dX12_sees_48 f_X12_175 (by decide) rfl rfl rfl ?_
        refine x_iload_n (pc' := 52) dX12_sees_51 rfl rfl ?_
        refine xg_if h (fun g8 h => ?_)
        refine x_iast (pc' := 53) dX12_sees_52 (by decide) rfl (xok_in g8) rfl ?_
        refine x_aload_n (pc' := 54) dX12_sees_53 rfl rfl ?_
        refine x_getr (pc' := 57) (t := 111) dX12_sees_54 f_X12_75 (by decide) rfl rfl rfl rfl ?_
        refine x_aload_n (pc' := 58) dX12_sees_57 rfl rfl ?_
        refine x_geti (pc' := 61) dX12_sees_58 f_X12_175 (by decide) rfl rfl rfl ?_
        refine x_iload_n (pc' := 62) dX12_sees_61 rfl rfl ?_
        refine xg_if h (fun g9 h => ?_)
        refine x_iast (pc' := 63) dX12_sees_62 (by decide) rfl (xok_in g9) rfl ?_
        refine x_aload_n (pc' := 64) dX12_sees_63 rfl rfl ?_
        refine x_dup (pc' := 65) dX12_sees_64 rfl rfl ?_
        refine x_geti (pc' := 68) dX12_sees_65 f_X12_175 (by decide) rfl rfl rfl ?_
        refine x_iconst (pc' := 69) (x := 1) dX12_sees_68 (by decide) rfl ?_
        refine x_iadd (pc' := 70) dX12_sees_69 rfl ?_
        refine x_puti (pc' := 73) dX12_sees_70 f_X12_175 (Or.inl rfl) (by decide) rfl rfl rfl ?_
        refine x_aload_n (pc' := 74) dX12_sees_73 rfl rfl ?_
        refine x_geti (pc' := 77) dX12_sees_74 f_X12_175 (by decide) rfl rfl rfl ?_
        obtain rfl := Option.some.inj h
        exact x_iret dX12_sees_77 rfl rfl (Nat.le_of_ble_eq_true rfl) rfl
def F_X12_forget (hi : Nat → Nat → Int32) (hl : Nat → Nat → Int64) (r : xRr) : Option (Int32 × xSt) := some (((xu hi 90 0 (0 : Int32)) 90 26), (xu (xu hi 90 0 (0 : Int32)) 90 26 (0 : Int32)), hl, r)
set_option maxRecDepth 20000 in
set_option maxHeartbeats 2000000 in
theorem r_X12_forget (hi : Nat → Nat → Int32) (hl : Nat → Nat → Int64) (r : xRr) (o : Int32 × xSt) (h : F_X12_forget hi hl r = some o) : xM yX12_forget cX12_forget 2 1 (0, 0, 0) z [.ref 90] (xhp hi hl r) (xoI o) := by
  refine x_meth2 (C := RX12) (ini := false) (L := [some (.ref 90), none]) rfl (by decide) (fun h9 => by cases h9) (by decide) (Nat.le_of_ble_eq_true rfl) rfl ?_
  refine x_aload_n (pc' := 1) dX12_forget_0 rfl rfl ?_
  refine x_iconst (pc' := 2) (x := 0) dX12_forget_1 (by decide) rfl ?_
  refine x_puti (pc' := 5) dX12_forget_2 f_X12_109 (Or.inl rfl) (by decide) rfl rfl rfl ?_
  refine x_aload_n (pc' := 6) dX12_forget_5 rfl rfl ?_
  refine x_geti (pc' := 9) dX12_forget_6 f_X12_175 (by decide) rfl rfl rfl ?_
  refine x_istore_n (pc' := 10) (L' := [some (.ref 90), some (.int ((xu hi 90 0 (0 : Int32)) 90 26))]) dX12_forget_9 (Nat.le_of_ble_eq_true rfl) rfl rfl ?_
  refine x_aload_n (pc' := 11) dX12_forget_10 rfl rfl ?_
  refine x_iconst (pc' := 12) (x := 0) dX12_forget_11 (by decide) rfl ?_
  refine x_puti (pc' := 15) dX12_forget_12 f_X12_175 (Or.inl rfl) (by decide) rfl rfl rfl ?_
  refine x_iload_n (pc' := 16) dX12_forget_15 rfl rfl ?_
  obtain rfl := Option.some.inj h
  exact x_iret dX12_forget_16 rfl rfl (Nat.le_of_ble_eq_true rfl) rfl
def F_X12_came_38 (hi : Nat → Nat → Int32) (hl : Nat → Nat → Int64) (r : xRr) : Option (Int32 × xSt) := some ((0 : Int32), hi, hl, r)
set_option maxRecDepth 20000 in
set_option maxHeartbeats 2000000 in
theorem r_X12_came_38 (d1 : Option Value) (d2 : Option Value) (hi : Nat → Nat → Int32) (hl : Nat → Nat → Int64) (r : xRr) (o : Int32 × xSt) (h : F_X12_came_38 hi hl r = some o) : xR (RX12, cX12_came, 3, false, 1) (3, 0, 0) z 0 0 38 [some (.ref 90), d1, d2] [] (xhp hi hl r) (xoI o) := by
  refine x_iconst (pc' := 39) (x := 0) dX12_came_38 (by decide) rfl ?_
  refine x_goto (tgt := 43) dX12_came_39 (by decide) ?_
  obtain rfl := Option.some.inj h
  exact x_iret dX12_came_43 rfl rfl (Nat.le_of_ble_eq_true rfl) rfl
def F_X12_came_87 (v1 : Int32) (s1 : Int32) (hi : Nat → Nat → Int32) (hl : Nat → Nat → Int64) (r : xRr) : Option (Int32 × xSt) := xbI (F_X12_comes s1 v1 hi hl r) (fun w2 hi2 hl2 r2 => if w2 = 0 then some ((0 : Int32), hi2, hl2, r2) else some ((3 : Int32), hi2, hl2, r2))
set_option maxRecDepth 20000 in
set_option maxHeartbeats 2000000 in
theorem r_X12_came_87 (v1 : Int32) (s1 : Int32) (d2 : Option Value) (hi : Nat → Nat → Int32) (hl : Nat → Nat → Int64) (r : xRr) (o : Int32 × xSt) (h : F_X12_came_87 v1 s1 hi hl r = some o) : xR (RX12, cX12_came, 3, false, 1) (3, 0, 0) z 0 0 87 [some (.ref 90), some (.int v1), d2] [.int s1, .ref 90] (xhp hi hl r) (xoI o) := by
  refine x_iload_n (pc' := 88) dX12_came_87 rfl rfl ?_
  refine xg_bI h (fun w2 hi2 hl2 r2 e1 h => ?_)
  refine x_callV (pc' := 91) (S := []) (As := [.int s1, .int v1]) (b' := (2, 0, 0)) dX12_came_88 l_X12_216 m_X12_comes rfl rfl (show 90 < 122 by decide) rfl (Nat.le_of_ble_eq_true rfl) (Nat.le_of_ble_eq_true rfl) (Nat.le_of_ble_eq_true rfl) (Nat.le_of_ble_eq_true rfl) (r_X12_comes _ _ _ _ _ _ e1) rfl ?_
  refine xg_ite h (fun g3 h => ?_) (fun g3 h => ?_)
  · refine x_if_ne (tgt := 98) (pc' := 94) dX12_came_91 (by decide) rfl (fun hn => absurd g3 hn) (fun _ => ?_)
    refine x_iconst (pc' := 95) (x := 0) dX12_came_94 (by decide) rfl ?_
    refine x_goto (tgt := 99) dX12_came_95 (by decide) ?_
    obtain rfl := Option.some.inj h
    exact x_iret dX12_came_99 rfl rfl (Nat.le_of_ble_eq_true rfl) rfl
  · refine x_if_ne (tgt := 98) (pc' := 94) dX12_came_91 (by decide) rfl (fun _ => ?_) (fun hn => absurd hn g3)
    refine x_iconst (pc' := 99) (x := 3) dX12_came_98 (by decide) rfl ?_
    obtain rfl := Option.some.inj h
    exact x_iret dX12_came_99 rfl rfl (Nat.le_of_ble_eq_true rfl) rfl
def F_X12_came_63 (v1 : Int32) (v2 : Int32) (s1 : Int32) (hi : Nat → Nat → Int32) (hl : Nat → Nat → Int64) (r : xRr) : Option (Int32 × xSt) := if (17 : Int32) ≤ v2 then F_X12_came_87 v1 (8 : Int32) (xu hi 90 31 s1) (xu hl 90 32 (0 : Int64)) r else F_X12_came_87 v1 (v2 - (9 : Int32)) (xu hi 90 31 s1) (xu hl 90 32 (0 : Int64)) r
set_option maxRecDepth 20000 in
set_option maxHeartbeats 2000000 in
theorem r_X12_came_63 (v1 : Int32) (v2 : Int32) (s1 : Int32) (hi : Nat → Nat → Int32) (hl : Nat → Nat → Int64) (r : xRr) (o : Int32 × xSt) (h : F_X12_came_63 v1 v2 s1 hi hl r = some o) : xR (RX12, cX12_came, 3, false, 1) (3, 0, 0) z 0 0 63 [some (.ref 90), some (.int v1), some (.int v2)] [.int s1, .ref 90] (xhp hi hl r) (xoI o) := by
  refine x_puti (pc' := 66) dX12_came_63 f_X12_182 (Or.inl rfl) (by decide) rfl rfl rfl ?_
  refine x_aload_n (pc' := 67) dX12_came_66 rfl rfl ?_
  refine x_lconst (pc' := 68) (x := 0) dX12_came_67 (by decide) rfl ?_
  refine x_putl (pc' := 71) dX12_came_68 f_X12_185 (Or.inl rfl) (by decide) rfl rfl rfl ?_
  refine x_aload_n (pc' := 72) dX12_came_71 rfl rfl ?_
  refine x_iload_n (pc' := 73) dX12_came_72 rfl rfl ?_
  refine x_bipush (pc' := 75) (x := 17) dX12_came_73 (by decide) rfl ?_
  refine xg_ite h (fun g1 h => ?_) (fun g1 h => ?_)
  · refine x_icmp_ge (tgt := 85) (pc' := 78) dX12_came_75 (by decide) rfl (fun _ => ?_) (fun hn => absurd g1 hn)
    refine x_bipush (pc' := 87) (x := 8) dX12_came_85 (by decide) rfl ?_
    exact r_X12_came_87 _ _ _ _ _ _ _ h
  · refine x_icmp_ge (tgt := 85) (pc' := 78) dX12_came_75 (by decide) rfl (fun hn => absurd hn g1) (fun _ => ?_)
    refine x_iload_n (pc' := 79) dX12_came_78 rfl rfl ?_
    refine x_bipush (pc' := 81) (x := 9) dX12_came_79 (by decide) rfl ?_
    refine x_isub (pc' := 82) dX12_came_81 rfl ?_
    refine x_goto (tgt := 87) dX12_came_82 (by decide) ?_
    exact r_X12_came_87 _ _ _ _ _ _ _ h
def F_X12_came (v1 : Int32) (v2 : Int32) (hi : Nat → Nat → Int32) (hl : Nat → Nat → Int64) (r : xRr) : Option (Int32 × xSt) := if v1 ≤ (10 : Int32) then if (9 : Int32) ≤ v2 then if v2 = (25 : Int32) then F_X12_came_63 v1 v2 (9 : Int32) hi hl r else if (8 : Int32) = 0 then none else F_X12_came_63 v1 v2 ((v2 - (9 : Int32)) - (v2 - (9 : Int32)) / (8 : Int32) * (8 : Int32)) hi hl r else if v2 = (8 : Int32) then F_X12_came_38 hi hl r else xbP (F_X12_widens v1 v2) (fun w7 => if w7 = 0 then some ((3 : Int32), hi, hl, r) else F_X12_came_38 hi hl r) else if v1 = (11 : Int32) then some ((1 : Int32), hi, hl, r) else some ((2 : Int32), hi, hl, r)
set_option maxRecDepth 20000 in
set_option maxHeartbeats 2000000 in
theorem r_X12_came (v1 : Int32) (v2 : Int32) (hi : Nat → Nat → Int32) (hl : Nat → Nat → Int64) (r : xRr) (o : Int32 × xSt) (h : F_X12_came v1 v2 hi hl r = some o) : xM yX12_came cX12_came 3 1 (3, 0, 0) z [.ref 90, .int v1, .int v2] (xhp hi hl r) (xoI o) := by
  refine x_meth2 (C := RX12) (ini := false) (L := [some (.ref 90), some (.int v1), some (.int v2)]) rfl (by decide) (fun h9 => by cases h9) (by decide) (Nat.le_of_ble_eq_true rfl) rfl ?_
  refine x_iload_n (pc' := 1) dX12_came_0 rfl rfl ?_
  refine x_bipush (pc' := 3) (x := 10) dX12_came_1 (by decide) rfl ?_
  refine xg_ite h (fun g1 h => ?_) (fun g1 h => ?_)
  · refine x_icmp_le (tgt := 18) (pc' := 6) dX12_came_3 (by decide) rfl (fun _ => ?_) (fun hn => absurd g1 hn)
    refine x_iload_n (pc' := 19) dX12_came_18 rfl rfl ?_
    refine x_bipush (pc' := 21) (x := 9) dX12_came_19 (by decide) rfl ?_
    refine xg_ite h (fun g2 h => ?_) (fun g2 h => ?_)
    · refine x_icmp_ge (tgt := 44) (pc' := 24) dX12_came_21 (by decide) rfl (fun _ => ?_) (fun hn => absurd g2 hn)
      refine x_aload_n (pc' := 45) dX12_came_44 rfl rfl ?_
      refine x_iload_n (pc' := 46) dX12_came_45 rfl rfl ?_
      refine x_bipush (pc' := 48) (x := 25) dX12_came_46 (by decide) rfl ?_
      refine xg_ite h (fun g3 h => ?_) (fun g3 h => ?_)
      · refine x_icmp_ne (tgt := 56) (pc' := 51) dX12_came_48 (by decide) rfl (fun hn => absurd g3 hn) (fun _ => ?_)
        refine x_bipush (pc' := 53) (x := 9) dX12_came_51 (by decide) rfl ?_
        refine x_goto (tgt := 63) dX12_came_53 (by decide) ?_
        exact r_X12_came_63 _ _ _ _ _ _ _ h
      · refine x_icmp_ne (tgt := 56) (pc' := 51) dX12_came_48 (by decide) rfl (fun _ => ?_) (fun hn => absurd hn g3)
        refine x_iload_n (pc' := 57) dX12_came_56 rfl rfl ?_
        refine x_bipush (pc' := 59) (x := 9) dX12_came_57 (by decide) rfl ?_
        refine x_isub (pc' := 60) dX12_came_59 rfl ?_
        refine x_bipush (pc' := 62) (x := 8) dX12_came_60 (by decide) rfl ?_
        refine xg_nz h (fun g4 h => ?_)
        refine x_irem (pc' := 63) dX12_came_62 g4 rfl ?_
        exact r_X12_came_63 _ _ _ _ _ _ _ h
    · refine x_icmp_ge (tgt := 44) (pc' := 24) dX12_came_21 (by decide) rfl (fun hn => absurd hn g2) (fun _ => ?_)
      refine x_iload_n (pc' := 25) dX12_came_24 rfl rfl ?_
      refine x_bipush (pc' := 27) (x := 8) dX12_came_25 (by decide) rfl ?_
      refine xg_ite h (fun g5 h => ?_) (fun g5 h => ?_)
      · refine x_icmp_eq (tgt := 38) (pc' := 30) dX12_came_27 (by decide) rfl (fun _ => ?_) (fun hn => absurd g5 hn)
        exact r_X12_came_38 _ _ _ _ _ _ h
      · refine x_icmp_eq (tgt := 38) (pc' := 30) dX12_came_27 (by decide) rfl (fun hn => absurd hn g5) (fun _ => ?_)
        refine x_iload_n (pc' := 31) dX12_came_30 rfl rfl ?_
        refine x_iload_n (pc' := 32) dX12_came_31 rfl rfl ?_
        refine xg_bP h (fun w7 e6 h => ?_)
        refine x_callS (pc' := 35) (S := []) (As := [.int v1, .int v2]) (b' := (0, 0, 0)) dX12_came_32 l_X12_178 m_X12_widens rfl rfl (Nat.le_of_ble_eq_true rfl) (Nat.le_of_ble_eq_true rfl) (Nat.le_of_ble_eq_true rfl) (Nat.le_of_ble_eq_true rfl) (r_X12_widens _ _ _ _ e6) rfl ?_
        refine xg_ite h (fun g8 h => ?_) (fun g8 h => ?_)
        · refine x_if_eq (tgt := 42) (pc' := 38) dX12_came_35 (by decide) rfl (fun _ => ?_) (fun hn => absurd g8 hn)
          refine x_iconst (pc' := 43) (x := 3) dX12_came_42 (by decide) rfl ?_
          obtain rfl := Option.some.inj h
          exact x_iret dX12_came_43 rfl rfl (Nat.le_of_ble_eq_true rfl) rfl
        · refine x_if_eq (tgt := 42) (pc' := 38) dX12_came_35 (by decide) rfl (fun hn => absurd hn g8) (fun _ => ?_)
          exact r_X12_came_38 _ _ _ _ _ _ h
  · refine x_icmp_le (tgt := 18) (pc' := 6) dX12_came_3 (by decide) rfl (fun hn => absurd hn g1) (fun _ => ?_)
    refine x_iload_n (pc' := 7) dX12_came_6 rfl rfl ?_
    refine x_bipush (pc' := 9) (x := 11) dX12_came_7 (by decide) rfl ?_
    refine xg_ite h (fun g9 h => ?_) (fun g9 h => ?_)
    · refine x_icmp_ne (tgt := 16) (pc' := 12) dX12_came_9 (by decide) rfl (fun hn => absurd g9 hn) (fun _ => ?_)
      refine x_iconst (pc' := 13) (x := 1) dX12_came_12 (by decide) rfl ?_
      refine x_goto (tgt := 17) dX12_came_13 (by decide) ?_
      obtain rfl := Option.some.inj h
      exact x_iret dX12_came_17 rfl rfl (Nat.le_of_ble_eq_true rfl) rfl
    · refine x_icmp_ne (tgt := 16) (pc' := 12) dX12_came_9 (by decide) rfl (fun _ => ?_) (fun hn => absurd hn g9)
      refine x_iconst (pc' := 17) (x := 2) dX12_came_16 (by decide) rfl ?_
      obtain rfl := Option.some.inj h
      exact x_iret dX12_came_17 rfl rfl (Nat.le_of_ble_eq_true rfl) rfl
def F_X12_left_55 (K4 : Int32 → Int32 → (Nat → Nat → Int32) → (Nat → Nat → Int64) → xRr → Option (Int32 × xSt)) (K15 : Int32 → Int32 → Int32 → Int32 → (Nat → Nat → Int32) → (Nat → Nat → Int64) → xRr → Option (Int32 × xSt)) (v1 : Int32) (v2 : Int32) (v4 : Int32) (s0 : Int32) (hi : Nat → Nat → Int32) (hl : Nat → Nat → Int64) (r : xRr) : Option (Int32 × xSt) := K15 v1 v2 s0 (v4 + (1)) hi hl r
set_option maxRecDepth 20000 in
set_option maxHeartbeats 2000000 in
theorem r_X12_left_55 (K4 : Int32 → Int32 → (Nat → Nat → Int32) → (Nat → Nat → Int64) → xRr → Option (Int32 × xSt)) (hK4 : ∀ (v1 : Int32) (v2 : Int32) (d3 : Option Value) (d4 : Option Value) (hi : Nat → Nat → Int32) (hl : Nat → Nat → Int64) (r : xRr) (o : Int32 × xSt), K4 v1 v2 hi hl r = some o → xR (RX12, cX12_left, 5, false, 1) (4, 0, 0) z 0 0 4 [some (.ref 90), some (.int v1), some (.int v2), d3, d4] [] (xhp hi hl r) (xoI o)) (K15 : Int32 → Int32 → Int32 → Int32 → (Nat → Nat → Int32) → (Nat → Nat → Int64) → xRr → Option (Int32 × xSt)) (hK15 : ∀ (v1 : Int32) (v2 : Int32) (v3 : Int32) (v4 : Int32) (hi : Nat → Nat → Int32) (hl : Nat → Nat → Int64) (r : xRr) (o : Int32 × xSt), K15 v1 v2 v3 v4 hi hl r = some o → xR (RX12, cX12_left, 5, false, 1) (4, 0, 0) z 0 0 15 [some (.ref 90), some (.int v1), some (.int v2), some (.int v3), some (.int v4)] [] (xhp hi hl r) (xoI o)) (v1 : Int32) (v2 : Int32) (v4 : Int32) (s0 : Int32) (d3 : Option Value) (hi : Nat → Nat → Int32) (hl : Nat → Nat → Int64) (r : xRr) (o : Int32 × xSt) (h : F_X12_left_55 K4 K15 v1 v2 v4 s0 hi hl r = some o) : xR (RX12, cX12_left, 5, false, 1) (4, 0, 0) z 0 0 55 [some (.ref 90), some (.int v1), some (.int v2), d3, some (.int v4)] [.int s0] (xhp hi hl r) (xoI o) := by
  refine x_istore_n (pc' := 56) (L' := [some (.ref 90), some (.int v1), some (.int v2), some (.int s0), some (.int v4)]) dX12_left_55 (Nat.le_of_ble_eq_true rfl) rfl rfl ?_
  refine x_iinc (pc' := 59) (v := (v4 + (1))) (L' := [some (.ref 90), some (.int v1), some (.int v2), some (.int s0), some (.int (v4 + (1)))]) dX12_left_56 rfl rfl (Nat.le_of_ble_eq_true rfl) rfl rfl ?_
  refine x_goto (tgt := 15) dX12_left_59 (by decide) ?_
  exact hK15 _ _ _ _ _ _ _ _ h
def F_X12_left_54 (K4 : Int32 → Int32 → (Nat → Nat → Int32) → (Nat → Nat → Int64) → xRr → Option (Int32 × xSt)) (K15 : Int32 → Int32 → Int32 → Int32 → (Nat → Nat → Int32) → (Nat → Nat → Int64) → xRr → Option (Int32 × xSt)) (v1 : Int32) (v2 : Int32) (v4 : Int32) (hi : Nat → Nat → Int32) (hl : Nat → Nat → Int64) (r : xRr) : Option (Int32 × xSt) := F_X12_left_55 K4 K15 v1 v2 v4 (0 : Int32) hi hl r
set_option maxRecDepth 20000 in
set_option maxHeartbeats 2000000 in
theorem r_X12_left_54 (K4 : Int32 → Int32 → (Nat → Nat → Int32) → (Nat → Nat → Int64) → xRr → Option (Int32 × xSt)) (hK4 : ∀ (v1 : Int32) (v2 : Int32) (d3 : Option Value) (d4 : Option Value) (hi : Nat → Nat → Int32) (hl : Nat → Nat → Int64) (r : xRr) (o : Int32 × xSt), K4 v1 v2 hi hl r = some o → xR (RX12, cX12_left, 5, false, 1) (4, 0, 0) z 0 0 4 [some (.ref 90), some (.int v1), some (.int v2), d3, d4] [] (xhp hi hl r) (xoI o)) (K15 : Int32 → Int32 → Int32 → Int32 → (Nat → Nat → Int32) → (Nat → Nat → Int64) → xRr → Option (Int32 × xSt)) (hK15 : ∀ (v1 : Int32) (v2 : Int32) (v3 : Int32) (v4 : Int32) (hi : Nat → Nat → Int32) (hl : Nat → Nat → Int64) (r : xRr) (o : Int32 × xSt), K15 v1 v2 v3 v4 hi hl r = some o → xR (RX12, cX12_left, 5, false, 1) (4, 0, 0) z 0 0 15 [some (.ref 90), some (.int v1), some (.int v2), some (.int v3), some (.int v4)] [] (xhp hi hl r) (xoI o)) (v1 : Int32) (v2 : Int32) (v4 : Int32) (d3 : Option Value) (hi : Nat → Nat → Int32) (hl : Nat → Nat → Int64) (r : xRr) (o : Int32 × xSt) (h : F_X12_left_54 K4 K15 v1 v2 v4 hi hl r = some o) : xR (RX12, cX12_left, 5, false, 1) (4, 0, 0) z 0 0 54 [some (.ref 90), some (.int v1), some (.int v2), d3, some (.int v4)] [] (xhp hi hl r) (xoI o) := by
  refine x_iconst (pc' := 55) (x := 0) dX12_left_54 (by decide) rfl ?_
  exact r_X12_left_55 K4 hK4 K15 hK15 _ _ _ _ _ _ _ _ _ h
def F_X12_left_74 (K4 : Int32 → Int32 → (Nat → Nat → Int32) → (Nat → Nat → Int64) → xRr → Option (Int32 × xSt)) (v2 : Int32) (s0 : Int32) (s1 : Int32) (hi : Nat → Nat → Int32) (hl : Nat → Nat → Int64) (r : xRr) : Option (Int32 × xSt) := K4 (s0 ||| s1) (v2 + (1)) hi hl r
set_option maxRecDepth 20000 in
set_option maxHeartbeats 2000000 in
theorem r_X12_left_74 (K4 : Int32 → Int32 → (Nat → Nat → Int32) → (Nat → Nat → Int64) → xRr → Option (Int32 × xSt)) (hK4 : ∀ (v1 : Int32) (v2 : Int32) (d3 : Option Value) (d4 : Option Value) (hi : Nat → Nat → Int32) (hl : Nat → Nat → Int64) (r : xRr) (o : Int32 × xSt), K4 v1 v2 hi hl r = some o → xR (RX12, cX12_left, 5, false, 1) (4, 0, 0) z 0 0 4 [some (.ref 90), some (.int v1), some (.int v2), d3, d4] [] (xhp hi hl r) (xoI o)) (v2 : Int32) (s0 : Int32) (s1 : Int32) (d1 : Option Value) (d3 : Option Value) (d4 : Option Value) (hi : Nat → Nat → Int32) (hl : Nat → Nat → Int64) (r : xRr) (o : Int32 × xSt) (h : F_X12_left_74 K4 v2 s0 s1 hi hl r = some o) : xR (RX12, cX12_left, 5, false, 1) (4, 0, 0) z 0 0 74 [some (.ref 90), d1, some (.int v2), d3, d4] [.int s1, .int s0] (xhp hi hl r) (xoI o) := by
  refine x_ior (pc' := 75) dX12_left_74 rfl ?_
  refine x_istore_n (pc' := 76) (L' := [some (.ref 90), some (.int (s0 ||| s1)), some (.int v2), d3, d4]) dX12_left_75 (Nat.le_of_ble_eq_true rfl) rfl rfl ?_
  refine x_iinc (pc' := 79) (v := (v2 + (1))) (L' := [some (.ref 90), some (.int (s0 ||| s1)), some (.int (v2 + (1))), d3, d4]) dX12_left_76 rfl rfl (Nat.le_of_ble_eq_true rfl) rfl rfl ?_
  refine x_goto (tgt := 4) dX12_left_79 (by decide) ?_
  exact hK4 _ _ _ _ _ _ _ _ h
def F_X12_left_15 (K4 : Int32 → Int32 → (Nat → Nat → Int32) → (Nat → Nat → Int64) → xRr → Option (Int32 × xSt)) : Nat → Int32 → Int32 → Int32 → Int32 → (Nat → Nat → Int32) → (Nat → Nat → Int64) → xRr → Option (Int32 × xSt)
  | 0, _, _, _, _, _, _, _ => none
  | n + 1, v1, v2, v3, v4, hi, hl, r => if (hi 90 26) ≤ v4 then if v3 = 0 then F_X12_left_74 K4 v2 v1 (0 : Int32) hi hl r else F_X12_left_74 K4 v2 v1 ((1 : Int32) <<< (v2 &&& 31)) hi hl r else if v3 = 0 then F_X12_left_54 K4 (F_X12_left_15 K4 n) v1 v2 v4 hi hl r else if xok v4 6 = true then xbI (F_X12_came v2 (hi 110 (Int32.toNatClampNeg v4)) hi hl r) (fun w6 hi6 hl6 r6 => if w6 = (hi6 111 (Int32.toNatClampNeg v4)) then F_X12_left_55 K4 (F_X12_left_15 K4 n) v1 v2 v4 (1 : Int32) hi6 hl6 r6 else F_X12_left_54 K4 (F_X12_left_15 K4 n) v1 v2 v4 hi6 hl6 r6) else none
set_option maxRecDepth 20000 in
set_option maxHeartbeats 2000000 in
theorem r_X12_left_15 (K4 : Int32 → Int32 → (Nat → Nat → Int32) → (Nat → Nat → Int64) → xRr → Option (Int32 × xSt)) (hK4 : ∀ (v1 : Int32) (v2 : Int32) (d3 : Option Value) (d4 : Option Value) (hi : Nat → Nat → Int32) (hl : Nat → Nat → Int64) (r : xRr) (o : Int32 × xSt), K4 v1 v2 hi hl r = some o → xR (RX12, cX12_left, 5, false, 1) (4, 0, 0) z 0 0 4 [some (.ref 90), some (.int v1), some (.int v2), d3, d4] [] (xhp hi hl r) (xoI o)) : ∀ (n : Nat) (v1 : Int32) (v2 : Int32) (v3 : Int32) (v4 : Int32) (hi : Nat → Nat → Int32) (hl : Nat → Nat → Int64) (r : xRr) (o : Int32 × xSt), F_X12_left_15 K4 n v1 v2 v3 v4 hi hl r = some o → xR (RX12, cX12_left, 5, false, 1) (4, 0, 0) z 0 0 15 [some (.ref 90), some (.int v1), some (.int v2), some (.int v3), some (.int v4)] [] (xhp hi hl r) (xoI o) := by
  intro n
  induction n with
  | zero =>
    intro v1 v2 v3 v4 hi hl r o h
    have h : none = some o := h
    cases h
  | succ n ih =>
    intro v1 v2 v3 v4 hi hl r o h
    refine x_iload (pc' := 17) dX12_left_15 rfl rfl ?_
    refine x_aload_n (pc' := 18) dX12_left_17 rfl rfl ?_
    refine x_geti (pc' := 21) dX12_left_18 f_X12_175 (by decide) rfl rfl rfl ?_
    refine xg_ite h (fun g1 h => ?_) (fun g1 h => ?_)
    · refine x_icmp_ge (tgt := 62) (pc' := 24) dX12_left_21 (by decide) rfl (fun _ => ?_) (fun hn => absurd g1 hn)
      refine x_iload_n (pc' := 63) dX12_left_62 rfl rfl ?_
      refine x_iload_n (pc' := 64) dX12_left_63 rfl rfl ?_
      refine xg_ite h (fun g2 h => ?_) (fun g2 h => ?_)
      · refine x_if_eq (tgt := 73) (pc' := 67) dX12_left_64 (by decide) rfl (fun _ => ?_) (fun hn => absurd g2 hn)
        refine x_iconst (pc' := 74) (x := 0) dX12_left_73 (by decide) rfl ?_
        exact r_X12_left_74 K4 hK4 _ _ _ _ _ _ _ _ _ _ h
      · refine x_if_eq (tgt := 73) (pc' := 67) dX12_left_64 (by decide) rfl (fun hn => absurd hn g2) (fun _ => ?_)
        refine x_iconst (pc' := 68) (x := 1) dX12_left_67 (by decide) rfl ?_
        refine x_iload_n (pc' := 69) dX12_left_68 rfl rfl ?_
        refine x_ishl (pc' := 70) dX12_left_69 rfl ?_
        refine x_goto (tgt := 74) dX12_left_70 (by decide) ?_
        exact r_X12_left_74 K4 hK4 _ _ _ _ _ _ _ _ _ _ h
    · refine x_icmp_ge (tgt := 62) (pc' := 24) dX12_left_21 (by decide) rfl (fun hn => absurd hn g1) (fun _ => ?_)
      refine x_iload_n (pc' := 25) dX12_left_24 rfl rfl ?_
      refine xg_ite h (fun g3 h => ?_) (fun g3 h => ?_)
      · refine x_if_eq (tgt := 54) (pc' := 28) dX12_left_25 (by decide) rfl (fun _ => ?_) (fun hn => absurd g3 hn)
        exact r_X12_left_54 K4 hK4 (F_X12_left_15 K4 n) ih _ _ _ _ _ _ _ _ h
      · refine x_if_eq (tgt := 54) (pc' := 28) dX12_left_25 (by decide) rfl (fun hn => absurd hn g3) (fun _ => ?_)
        refine x_aload_n (pc' := 29) dX12_left_28 rfl rfl ?_
        refine x_iload_n (pc' := 30) dX12_left_29 rfl rfl ?_
        refine x_aload_n (pc' := 31) dX12_left_30 rfl rfl ?_
        refine x_getr (pc' := 34) (t := 110) dX12_left_31 f_X12_72 (by decide) rfl rfl rfl rfl ?_
        refine x_iload (pc' := 36) dX12_left_34 rfl rfl ?_
        refine xg_if h (fun g4 h => ?_)
        refine x_iald (pc' := 37) dX12_left_36 (by decide) rfl (xok_in g4) rfl ?_
        refine xg_bI h (fun w6 hi6 hl6 r6 e5 h => ?_)
        refine x_callV (pc' := 40) (S := []) (As := [.int v2, .int (hi 110 (Int32.toNatClampNeg v4))]) (b' := (3, 0, 0)) dX12_left_37 l_X12_358 m_X12_came rfl rfl (show 90 < 122 by decide) rfl (Nat.le_of_ble_eq_true rfl) (Nat.le_of_ble_eq_true rfl) (Nat.le_of_ble_eq_true rfl) (Nat.le_of_ble_eq_true rfl) (r_X12_came _ _ _ _ _ _ e5) rfl ?_
        refine x_aload_n (pc' := 41) dX12_left_40 rfl rfl ?_
        refine x_getr (pc' := 44) (t := 111) dX12_left_41 f_X12_75 (by decide) rfl rfl rfl rfl ?_
        refine x_iload (pc' := 46) dX12_left_44 rfl rfl ?_
        refine x_iald (pc' := 47) dX12_left_46 (by decide) rfl (xok_in g4) rfl ?_
        refine xg_ite h (fun g7 h => ?_) (fun g7 h => ?_)
        · refine x_icmp_ne (tgt := 54) (pc' := 50) dX12_left_47 (by decide) rfl (fun hn => absurd g7 hn) (fun _ => ?_)
          refine x_iconst (pc' := 51) (x := 1) dX12_left_50 (by decide) rfl ?_
          refine x_goto (tgt := 55) dX12_left_51 (by decide) ?_
          exact r_X12_left_55 K4 hK4 (F_X12_left_15 K4 n) ih _ _ _ _ _ _ _ _ _ h
        · refine x_icmp_ne (tgt := 54) (pc' := 50) dX12_left_47 (by decide) rfl (fun _ => ?_) (fun hn => absurd hn g7)
          exact r_X12_left_54 K4 hK4 (F_X12_left_15 K4 n) ih _ _ _ _ _ _ _ _ h
def F_X12_left_4 : Nat → Int32 → Int32 → (Nat → Nat → Int32) → (Nat → Nat → Int64) → xRr → Option (Int32 × xSt)
  | 0, _, _, _, _, _ => none
  | n + 1, v1, v2, hi, hl, r => if (13 : Int32) ≤ v2 then some (v1, hi, hl, r) else F_X12_left_15 (F_X12_left_4 n) 1000000 v1 v2 (1 : Int32) (0 : Int32) hi hl r
set_option maxRecDepth 20000 in
set_option maxHeartbeats 2000000 in
theorem r_X12_left_4 : ∀ (n : Nat) (v1 : Int32) (v2 : Int32) (d3 : Option Value) (d4 : Option Value) (hi : Nat → Nat → Int32) (hl : Nat → Nat → Int64) (r : xRr) (o : Int32 × xSt), F_X12_left_4 n v1 v2 hi hl r = some o → xR (RX12, cX12_left, 5, false, 1) (4, 0, 0) z 0 0 4 [some (.ref 90), some (.int v1), some (.int v2), d3, d4] [] (xhp hi hl r) (xoI o) := by
  intro n
  induction n with
  | zero =>
    intro v1 v2 d3 d4 hi hl r o h
    have h : none = some o := h
    cases h
  | succ n ih =>
    intro v1 v2 d3 d4 hi hl r o h
    refine x_iload_n (pc' := 5) dX12_left_4 rfl rfl ?_
    refine x_bipush (pc' := 7) (x := 13) dX12_left_5 (by decide) rfl ?_
    refine xg_ite h (fun g1 h => ?_) (fun g1 h => ?_)
    · refine x_icmp_ge (tgt := 82) (pc' := 10) dX12_left_7 (by decide) rfl (fun _ => ?_) (fun hn => absurd g1 hn)
      refine x_iload_n (pc' := 83) dX12_left_82 rfl rfl ?_
      obtain rfl := Option.some.inj h
      exact x_iret dX12_left_83 rfl rfl (Nat.le_of_ble_eq_true rfl) rfl
    · refine x_icmp_ge (tgt := 82) (pc' := 10) dX12_left_7 (by decide) rfl (fun hn => absurd hn g1) (fun _ => ?_)
      refine x_iconst (pc' := 11) (x := 1) dX12_left_10 (by decide) rfl ?_
      refine x_istore_n (pc' := 12) (L' := [some (.ref 90), some (.int v1), some (.int v2), some (.int (1 : Int32)), d4]) dX12_left_11 (Nat.le_of_ble_eq_true rfl) rfl rfl ?_
      refine x_iconst (pc' := 13) (x := 0) dX12_left_12 (by decide) rfl ?_
      refine x_istore (pc' := 15) (L' := [some (.ref 90), some (.int v1), some (.int v2), some (.int (1 : Int32)), some (.int (0 : Int32))]) dX12_left_13 (Nat.le_of_ble_eq_true rfl) rfl rfl ?_
      exact r_X12_left_15 (F_X12_left_4 n) ih 1000000 _ _ _ _ _ _ _ _ h
def F_X12_left (hi : Nat → Nat → Int32) (hl : Nat → Nat → Int64) (r : xRr) : Option (Int32 × xSt) := F_X12_left_4 1000000 (0 : Int32) (0 : Int32) hi hl r
set_option maxRecDepth 20000 in
set_option maxHeartbeats 2000000 in
theorem r_X12_left (hi : Nat → Nat → Int32) (hl : Nat → Nat → Int64) (r : xRr) (o : Int32 × xSt) (h : F_X12_left hi hl r = some o) : xM yX12_left cX12_left 5 1 (4, 0, 0) z [.ref 90] (xhp hi hl r) (xoI o) := by
  refine x_meth2 (C := RX12) (ini := false) (L := [some (.ref 90), none, none, none, none]) rfl (by decide) (fun h9 => by cases h9) (by decide) (Nat.le_of_ble_eq_true rfl) rfl ?_
  refine x_iconst (pc' := 1) (x := 0) dX12_left_0 (by decide) rfl ?_
  refine x_istore_n (pc' := 2) (L' := [some (.ref 90), some (.int (0 : Int32)), none, none, none]) dX12_left_1 (Nat.le_of_ble_eq_true rfl) rfl rfl ?_
  refine x_iconst (pc' := 3) (x := 0) dX12_left_2 (by decide) rfl ?_
  refine x_istore_n (pc' := 4) (L' := [some (.ref 90), some (.int (0 : Int32)), some (.int (0 : Int32)), none, none]) dX12_left_3 (Nat.le_of_ble_eq_true rfl) rfl rfl ?_
  exact r_X12_left_4 1000000 _ _ _ _ _ _ _ _ h
def F_X12_ones_4 : Nat → Int32 → Int32 → Int32 → Option (Int32)
  | 0, _, _, _ => none
  | n + 1, v0, v1, v2 => if (13 : Int32) ≤ v2 then some v1 else (F_X12_ones_4 n) v0 (v1 + ((v0 >>> (v2 &&& 31)) &&& (1 : Int32))) (v2 + (1))
set_option maxRecDepth 20000 in
set_option maxHeartbeats 2000000 in
theorem r_X12_ones_4 : ∀ (n : Nat) (v0 : Int32) (v1 : Int32) (v2 : Int32) (H : xHp) (o : Int32), F_X12_ones_4 n v0 v1 v2 = some o → xR (RX12, cX12_ones, 3, false, 1) (0, 0, 0) z 0 0 4 [some (.int v0), some (.int v1), some (.int v2)] [] H (some (.int o), H) := by
  intro n
  induction n with
  | zero =>
    intro v0 v1 v2 H o h
    have h : none = some o := h
    cases h
  | succ n ih =>
    intro v0 v1 v2 H o h
    refine x_iload_n (pc' := 5) dX12_ones_4 rfl rfl ?_
    refine x_bipush (pc' := 7) (x := 13) dX12_ones_5 (by decide) rfl ?_
    refine xg_ite h (fun g1 h => ?_) (fun g1 h => ?_)
    · refine x_icmp_ge (tgt := 24) (pc' := 10) dX12_ones_7 (by decide) rfl (fun _ => ?_) (fun hn => absurd g1 hn)
      refine x_iload_n (pc' := 25) dX12_ones_24 rfl rfl ?_
      obtain rfl := Option.some.inj h
      exact x_iret dX12_ones_25 rfl rfl (Nat.le_of_ble_eq_true rfl) rfl
    · refine x_icmp_ge (tgt := 24) (pc' := 10) dX12_ones_7 (by decide) rfl (fun hn => absurd hn g1) (fun _ => ?_)
      refine x_iload_n (pc' := 11) dX12_ones_10 rfl rfl ?_
      refine x_iload_n (pc' := 12) dX12_ones_11 rfl rfl ?_
      refine x_iload_n (pc' := 13) dX12_ones_12 rfl rfl ?_
      refine x_ishr (pc' := 14) dX12_ones_13 rfl ?_
      refine x_iconst (pc' := 15) (x := 1) dX12_ones_14 (by decide) rfl ?_
      refine x_iand (pc' := 16) dX12_ones_15 rfl ?_
      refine x_iadd (pc' := 17) dX12_ones_16 rfl ?_
      refine x_istore_n (pc' := 18) (L' := [some (.int v0), some (.int (v1 + ((v0 >>> (v2 &&& 31)) &&& (1 : Int32)))), some (.int v2)]) dX12_ones_17 (Nat.le_of_ble_eq_true rfl) rfl rfl ?_
      refine x_iinc (pc' := 21) (v := (v2 + (1))) (L' := [some (.int v0), some (.int (v1 + ((v0 >>> (v2 &&& 31)) &&& (1 : Int32)))), some (.int (v2 + (1)))]) dX12_ones_18 rfl rfl (Nat.le_of_ble_eq_true rfl) rfl rfl ?_
      refine x_goto (tgt := 4) dX12_ones_21 (by decide) ?_
      exact ih _ _ _ _ _ h
def F_X12_ones (v0 : Int32) : Option (Int32) := F_X12_ones_4 1000000 v0 (0 : Int32) (0 : Int32)
set_option maxRecDepth 20000 in
set_option maxHeartbeats 2000000 in
theorem r_X12_ones (v0 : Int32) (H : xHp) (o : Int32) (h : F_X12_ones v0 = some o) : xM yX12_ones cX12_ones 3 1 (0, 0, 0) z [.int v0] H (some (.int o), H) := by
  refine x_meth2 (C := RX12) (ini := false) (L := [some (.int v0), none, none]) rfl (by decide) (fun h9 => by cases h9) (by decide) (Nat.le_of_ble_eq_true rfl) rfl ?_
  refine x_iconst (pc' := 1) (x := 0) dX12_ones_0 (by decide) rfl ?_
  refine x_istore_n (pc' := 2) (L' := [some (.int v0), some (.int (0 : Int32)), none]) dX12_ones_1 (Nat.le_of_ble_eq_true rfl) rfl rfl ?_
  refine x_iconst (pc' := 3) (x := 0) dX12_ones_2 (by decide) rfl ?_
  refine x_istore_n (pc' := 4) (L' := [some (.int v0), some (.int (0 : Int32)), some (.int (0 : Int32))]) dX12_ones_3 (Nat.le_of_ble_eq_true rfl) rfl rfl ?_
  exact r_X12_ones_4 1000000 _ _ _ _ _ h
def F_X12_unseen (v1 : Int32) (hi : Nat → Nat → Int32) (hl : Nat → Nat → Int64) (r : xRr) : Option (Int32 × xSt) := xbP (F_X12_in (Int32.toInt64 v1) (0 : Int64) (1 : Int64)) (fun w2 => if w2 = 0 then some (((-1) : Int32), (xu hi 90 0 (0 : Int32)), hl, r) else if v1 = 0 then xbI (F_X12_left (xu hi 90 0 (0 : Int32)) hl r) (fun w6 hi6 hl6 r6 => xbP (F_X12_ones w6) (fun w8 => some (w8, hi6, hl6, r6))) else xbI (F_X12_left (xu hi 90 0 (0 : Int32)) hl r) (fun w10 hi10 hl10 r10 => some (w10, hi10, hl10, r10)))
set_option maxRecDepth 20000 in
set_option maxHeartbeats 2000000 in
theorem r_X12_unseen (v1 : Int32) (hi : Nat → Nat → Int32) (hl : Nat → Nat → Int64) (r : xRr) (o : Int32 × xSt) (h : F_X12_unseen v1 hi hl r = some o) : xM yX12_unseen cX12_unseen 2 1 (5, 0, 0) z [.ref 90, .int v1] (xhp hi hl r) (xoI o) := by
  refine x_meth2 (C := RX12) (ini := false) (L := [some (.ref 90), some (.int v1)]) rfl (by decide) (fun h9 => by cases h9) (by decide) (Nat.le_of_ble_eq_true rfl) rfl ?_
  refine x_aload_n (pc' := 1) dX12_unseen_0 rfl rfl ?_
  refine x_iconst (pc' := 2) (x := 0) dX12_unseen_1 (by decide) rfl ?_
  refine x_puti (pc' := 5) dX12_unseen_2 f_X12_109 (Or.inl rfl) (by decide) rfl rfl rfl ?_
  refine x_iload_n (pc' := 6) dX12_unseen_5 rfl rfl ?_
  refine x_i2l (pc' := 7) dX12_unseen_6 rfl ?_
  refine x_lconst (pc' := 8) (x := 0) dX12_unseen_7 (by decide) rfl ?_
  refine x_lconst (pc' := 9) (x := 1) dX12_unseen_8 (by decide) rfl ?_
  refine xg_bP h (fun w2 e1 h => ?_)
  refine x_callS (pc' := 12) (S := []) (As := [.long (Int32.toInt64 v1), .long (0 : Int64), .long (1 : Int64)]) (b' := (0, 0, 0)) dX12_unseen_9 l_X12_118 m_X12_in rfl rfl (Nat.le_of_ble_eq_true rfl) (Nat.le_of_ble_eq_true rfl) (Nat.le_of_ble_eq_true rfl) (Nat.le_of_ble_eq_true rfl) (r_X12_in _ _ _ _ _ e1) rfl ?_
  refine xg_ite h (fun g3 h => ?_) (fun g3 h => ?_)
  · refine x_if_ne (tgt := 17) (pc' := 15) dX12_unseen_12 (by decide) rfl (fun hn => absurd g3 hn) (fun _ => ?_)
    refine x_iconst (pc' := 16) (x := (-1)) dX12_unseen_15 (by decide) rfl ?_
    obtain rfl := Option.some.inj h
    exact x_iret dX12_unseen_16 rfl rfl (Nat.le_of_ble_eq_true rfl) rfl
  · refine x_if_ne (tgt := 17) (pc' := 15) dX12_unseen_12 (by decide) rfl (fun _ => ?_) (fun hn => absurd hn g3)
    refine x_iload_n (pc' := 18) dX12_unseen_17 rfl rfl ?_
    refine xg_ite h (fun g4 h => ?_) (fun g4 h => ?_)
    · refine x_if_ne (tgt := 31) (pc' := 21) dX12_unseen_18 (by decide) rfl (fun hn => absurd g4 hn) (fun _ => ?_)
      refine x_aload_n (pc' := 22) dX12_unseen_21 rfl rfl ?_
      refine xg_bI h (fun w6 hi6 hl6 r6 e5 h => ?_)
      refine x_callV (pc' := 25) (S := []) (As := []) (b' := (4, 0, 0)) dX12_unseen_22 l_X12_361 m_X12_left rfl rfl (show 90 < 122 by decide) rfl (Nat.le_of_ble_eq_true rfl) (Nat.le_of_ble_eq_true rfl) (Nat.le_of_ble_eq_true rfl) (Nat.le_of_ble_eq_true rfl) (r_X12_left _ _ _ _ e5) rfl ?_
      refine xg_bP h (fun w8 e7 h => ?_)
      refine x_callS (pc' := 28) (S := []) (As := [.int w6]) (b' := (0, 0, 0)) dX12_unseen_25 l_X12_364 m_X12_ones rfl rfl (Nat.le_of_ble_eq_true rfl) (Nat.le_of_ble_eq_true rfl) (Nat.le_of_ble_eq_true rfl) (Nat.le_of_ble_eq_true rfl) (r_X12_ones _ _ _ e7) rfl ?_
      refine x_goto (tgt := 35) dX12_unseen_28 (by decide) ?_
      obtain rfl := Option.some.inj h
      exact x_iret dX12_unseen_35 rfl rfl (Nat.le_of_ble_eq_true rfl) rfl
    · refine x_if_ne (tgt := 31) (pc' := 21) dX12_unseen_18 (by decide) rfl (fun _ => ?_) (fun hn => absurd hn g4)
      refine x_aload_n (pc' := 32) dX12_unseen_31 rfl rfl ?_
      refine xg_bI h (fun w10 hi10 hl10 r10 e9 h => ?_)
      refine x_callV (pc' := 35) (S := []) (As := []) (b' := (4, 0, 0)) dX12_unseen_32 l_X12_361 m_X12_left rfl rfl (show 90 < 122 by decide) rfl (Nat.le_of_ble_eq_true rfl) (Nat.le_of_ble_eq_true rfl) (Nat.le_of_ble_eq_true rfl) (Nat.le_of_ble_eq_true rfl) (r_X12_left _ _ _ _ e9) rfl ?_
      obtain rfl := Option.some.inj h
      exact x_iret dX12_unseen_35 rfl rfl (Nat.le_of_ble_eq_true rfl) rfl
def F_X12_worstBehind_59 (K7 : Int32 → Int32 → Int32 → Int32 → (Nat → Nat → Int32) → (Nat → Nat → Int64) → xRr → Option (Int32 × xSt)) (v1 : Int32) (v2 : Int32) (v4 : Int32) (s0 : Int32) (hi : Nat → Nat → Int32) (hl : Nat → Nat → Int64) (r : xRr) : Option (Int32 × xSt) := K7 v1 v2 s0 (v4 + (1)) hi hl r
set_option maxRecDepth 20000 in
set_option maxHeartbeats 2000000 in
theorem r_X12_worstBehind_59 (K7 : Int32 → Int32 → Int32 → Int32 → (Nat → Nat → Int32) → (Nat → Nat → Int64) → xRr → Option (Int32 × xSt)) (hK7 : ∀ (v1 : Int32) (v2 : Int32) (v3 : Int32) (v4 : Int32) (d5 : Option Value) (hi : Nat → Nat → Int32) (hl : Nat → Nat → Int64) (r : xRr) (o : Int32 × xSt), K7 v1 v2 v3 v4 hi hl r = some o → xR (RX12, cX12_worstBehind, 6, false, 1) (0, 0, 0) z 0 0 7 [some (.ref 90), some (.int v1), some (.int v2), some (.int v3), some (.int v4), d5] [] (xhp hi hl r) (xoI o)) (v1 : Int32) (v2 : Int32) (v4 : Int32) (s0 : Int32) (d3 : Option Value) (d5 : Option Value) (hi : Nat → Nat → Int32) (hl : Nat → Nat → Int64) (r : xRr) (o : Int32 × xSt) (h : F_X12_worstBehind_59 K7 v1 v2 v4 s0 hi hl r = some o) : xR (RX12, cX12_worstBehind, 6, false, 1) (0, 0, 0) z 0 0 59 [some (.ref 90), some (.int v1), some (.int v2), d3, some (.int v4), d5] [.int s0] (xhp hi hl r) (xoI o) := by
  refine x_istore_n (pc' := 60) (L' := [some (.ref 90), some (.int v1), some (.int v2), some (.int s0), some (.int v4), d5]) dX12_worstBehind_59 (Nat.le_of_ble_eq_true rfl) rfl rfl ?_
  refine x_iinc (pc' := 63) (v := (v4 + (1))) (L' := [some (.ref 90), some (.int v1), some (.int v2), some (.int s0), some (.int (v4 + (1))), d5]) dX12_worstBehind_60 rfl rfl (Nat.le_of_ble_eq_true rfl) rfl rfl ?_
  refine x_goto (tgt := 7) dX12_worstBehind_63 (by decide) ?_
  exact hK7 _ _ _ _ _ _ _ _ _ h
def F_X12_worstBehind_7 : Nat → Int32 → Int32 → Int32 → Int32 → (Nat → Nat → Int32) → (Nat → Nat → Int64) → xRr → Option (Int32 × xSt)
  | 0, _, _, _, _, _, _, _ => none
  | n + 1, v1, v2, v3, v4, hi, hl, r => if (((4 : Int32) * v2) + (4 : Int32)) ≤ v4 then some (v3, hi, hl, r) else if xok v4 104 = true then if (v1 &&& (hi 121 (Int32.toNatClampNeg v4))) = v1 then some ((99 : Int32), hi, hl, r) else if xok (v1 &&& (hi 121 (Int32.toNatClampNeg v4))) 8192 = true then if (hi 112 (Int32.toNatClampNeg (v1 &&& (hi 121 (Int32.toNatClampNeg v4))))) ≤ v3 then F_X12_worstBehind_59 (F_X12_worstBehind_7 n) v1 v2 v4 v3 hi hl r else F_X12_worstBehind_59 (F_X12_worstBehind_7 n) v1 v2 v4 (hi 112 (Int32.toNatClampNeg (v1 &&& (hi 121 (Int32.toNatClampNeg v4))))) hi hl r else none else none
set_option maxRecDepth 20000 in
set_option maxHeartbeats 2000000 in
theorem r_X12_worstBehind_7 : ∀ (n : Nat) (v1 : Int32) (v2 : Int32) (v3 : Int32) (v4 : Int32) (d5 : Option Value) (hi : Nat → Nat → Int32) (hl : Nat → Nat → Int64) (r : xRr) (o : Int32 × xSt), F_X12_worstBehind_7 n v1 v2 v3 v4 hi hl r = some o → xR (RX12, cX12_worstBehind, 6, false, 1) (0, 0, 0) z 0 0 7 [some (.ref 90), some (.int v1), some (.int v2), some (.int v3), some (.int v4), d5] [] (xhp hi hl r) (xoI o) := by
  intro n
  induction n with
  | zero =>
    intro v1 v2 v3 v4 d5 hi hl r o h
    have h : none = some o := h
    cases h
  | succ n ih =>
    intro v1 v2 v3 v4 d5 hi hl r o h
    refine x_iload (pc' := 9) dX12_worstBehind_7 rfl rfl ?_
    refine x_iconst (pc' := 10) (x := 4) dX12_worstBehind_9 (by decide) rfl ?_
    refine x_iload_n (pc' := 11) dX12_worstBehind_10 rfl rfl ?_
    refine x_imul (pc' := 12) dX12_worstBehind_11 rfl ?_
    refine x_iconst (pc' := 13) (x := 4) dX12_worstBehind_12 (by decide) rfl ?_
    refine x_iadd (pc' := 14) dX12_worstBehind_13 rfl ?_
    refine xg_ite h (fun g1 h => ?_) (fun g1 h => ?_)
    · refine x_icmp_ge (tgt := 66) (pc' := 17) dX12_worstBehind_14 (by decide) rfl (fun _ => ?_) (fun hn => absurd g1 hn)
      refine x_iload_n (pc' := 67) dX12_worstBehind_66 rfl rfl ?_
      obtain rfl := Option.some.inj h
      exact x_iret dX12_worstBehind_67 rfl rfl (Nat.le_of_ble_eq_true rfl) rfl
    · refine x_icmp_ge (tgt := 66) (pc' := 17) dX12_worstBehind_14 (by decide) rfl (fun hn => absurd hn g1) (fun _ => ?_)
      refine x_iload_n (pc' := 18) dX12_worstBehind_17 rfl rfl ?_
      refine x_aload_n (pc' := 19) dX12_worstBehind_18 rfl rfl ?_
      refine x_getr (pc' := 22) (t := 121) dX12_worstBehind_19 f_X12_106 (by decide) rfl rfl rfl rfl ?_
      refine x_iload (pc' := 24) dX12_worstBehind_22 rfl rfl ?_
      refine xg_if h (fun g2 h => ?_)
      refine x_iald (pc' := 25) dX12_worstBehind_24 (by decide) rfl (xok_in g2) rfl ?_
      refine x_iand (pc' := 26) dX12_worstBehind_25 rfl ?_
      refine x_istore (pc' := 28) (L' := [some (.ref 90), some (.int v1), some (.int v2), some (.int v3), some (.int v4), some (.int (v1 &&& (hi 121 (Int32.toNatClampNeg v4))))]) dX12_worstBehind_26 (Nat.le_of_ble_eq_true rfl) rfl rfl ?_
      refine x_iload (pc' := 30) dX12_worstBehind_28 rfl rfl ?_
      refine x_iload_n (pc' := 31) dX12_worstBehind_30 rfl rfl ?_
      refine xg_ite h (fun g3 h => ?_) (fun g3 h => ?_)
      · refine x_icmp_ne (tgt := 37) (pc' := 34) dX12_worstBehind_31 (by decide) rfl (fun hn => absurd g3 hn) (fun _ => ?_)
        refine x_bipush (pc' := 36) (x := 99) dX12_worstBehind_34 (by decide) rfl ?_
        obtain rfl := Option.some.inj h
        exact x_iret dX12_worstBehind_36 rfl rfl (Nat.le_of_ble_eq_true rfl) rfl
      · refine x_icmp_ne (tgt := 37) (pc' := 34) dX12_worstBehind_31 (by decide) rfl (fun _ => ?_) (fun hn => absurd hn g3)
        refine x_aload_n (pc' := 38) dX12_worstBehind_37 rfl rfl ?_
        refine x_getr (pc' := 41) (t := 112) dX12_worstBehind_38 f_X12_78 (by decide) rfl rfl rfl rfl ?_
        refine x_iload (pc' := 43) dX12_worstBehind_41 rfl rfl ?_
        refine xg_if h (fun g4 h => ?_)
        refine x_bald (pc' := 44) dX12_worstBehind_43 (by decide) rfl (xok_in g4) rfl ?_
        refine x_iload_n (pc' := 45) dX12_worstBehind_44 rfl rfl ?_
        refine xg_ite h (fun g5 h => ?_) (fun g5 h => ?_)
        · refine x_icmp_le (tgt := 58) (pc' := 48) dX12_worstBehind_45 (by decide) rfl (fun _ => ?_) (fun hn => absurd g5 hn)
          refine x_iload_n (pc' := 59) dX12_worstBehind_58 rfl rfl ?_
          exact r_X12_worstBehind_59 (F_X12_worstBehind_7 n) ih _ _ _ _ _ _ _ _ _ _ h
        · refine x_icmp_le (tgt := 58) (pc' := 48) dX12_worstBehind_45 (by decide) rfl (fun hn => absurd hn g5) (fun _ => ?_)
          refine x_aload_n (pc' := 49) dX12_worstBehind_48 rfl rfl ?_
          refine x_getr (pc' := 52) (t := 112) dX12_worstBehind_49 f_X12_78 (by decide) rfl rfl rfl rfl ?_
          refine x_iload (pc' := 54) dX12_worstBehind_52 rfl rfl ?_
          refine x_bald (pc' := 55) dX12_worstBehind_54 (by decide) rfl (xok_in g4) rfl ?_
          refine x_goto (tgt := 59) dX12_worstBehind_55 (by decide) ?_
          exact r_X12_worstBehind_59 (F_X12_worstBehind_7 n) ih _ _ _ _ _ _ _ _ _ _ h
def F_X12_worstBehind (v1 : Int32) (v2 : Int32) (hi : Nat → Nat → Int32) (hl : Nat → Nat → Int64) (r : xRr) : Option (Int32 × xSt) := F_X12_worstBehind_7 1000000 v1 v2 (0 : Int32) ((4 : Int32) * v2) hi hl r
set_option maxRecDepth 20000 in
set_option maxHeartbeats 2000000 in
theorem r_X12_worstBehind (v1 : Int32) (v2 : Int32) (hi : Nat → Nat → Int32) (hl : Nat → Nat → Int64) (r : xRr) (o : Int32 × xSt) (h : F_X12_worstBehind v1 v2 hi hl r = some o) : xM yX12_worstBehind cX12_worstBehind 6 1 (0, 0, 0) z [.ref 90, .int v1, .int v2] (xhp hi hl r) (xoI o) := by
  refine x_meth2 (C := RX12) (ini := false) (L := [some (.ref 90), some (.int v1), some (.int v2), none, none, none]) rfl (by decide) (fun h9 => by cases h9) (by decide) (Nat.le_of_ble_eq_true rfl) rfl ?_
  refine x_iconst (pc' := 1) (x := 0) dX12_worstBehind_0 (by decide) rfl ?_
  refine x_istore_n (pc' := 2) (L' := [some (.ref 90), some (.int v1), some (.int v2), some (.int (0 : Int32)), none, none]) dX12_worstBehind_1 (Nat.le_of_ble_eq_true rfl) rfl rfl ?_
  refine x_iconst (pc' := 3) (x := 4) dX12_worstBehind_2 (by decide) rfl ?_
  refine x_iload_n (pc' := 4) dX12_worstBehind_3 rfl rfl ?_
  refine x_imul (pc' := 5) dX12_worstBehind_4 rfl ?_
  refine x_istore (pc' := 7) (L' := [some (.ref 90), some (.int v1), some (.int v2), some (.int (0 : Int32)), some (.int ((4 : Int32) * v2)), none]) dX12_worstBehind_5 (Nat.le_of_ble_eq_true rfl) rfl rfl ?_
  exact r_X12_worstBehind_7 1000000 _ _ _ _ _ _ _ _ _ h
def F_X12_fewestOf_33 (K5 : Int32 → Int32 → Int32 → (Nat → Nat → Int32) → (Nat → Nat → Int64) → xRr → Option (Int32 × xSt)) (v1 : Int32) (v3 : Int32) (s0 : Int32) (hi : Nat → Nat → Int32) (hl : Nat → Nat → Int64) (r : xRr) : Option (Int32 × xSt) := K5 v1 s0 (v3 + (1)) hi hl r
set_option maxRecDepth 20000 in
set_option maxHeartbeats 2000000 in
theorem r_X12_fewestOf_33 (K5 : Int32 → Int32 → Int32 → (Nat → Nat → Int32) → (Nat → Nat → Int64) → xRr → Option (Int32 × xSt)) (hK5 : ∀ (v1 : Int32) (v2 : Int32) (v3 : Int32) (d4 : Option Value) (hi : Nat → Nat → Int32) (hl : Nat → Nat → Int64) (r : xRr) (o : Int32 × xSt), K5 v1 v2 v3 hi hl r = some o → xR (RX12, cX12_fewestOf, 5, false, 1) (1, 0, 0) z 0 0 5 [some (.ref 90), some (.int v1), some (.int v2), some (.int v3), d4] [] (xhp hi hl r) (xoI o)) (v1 : Int32) (v3 : Int32) (s0 : Int32) (d2 : Option Value) (d4 : Option Value) (hi : Nat → Nat → Int32) (hl : Nat → Nat → Int64) (r : xRr) (o : Int32 × xSt) (h : F_X12_fewestOf_33 K5 v1 v3 s0 hi hl r = some o) : xR (RX12, cX12_fewestOf, 5, false, 1) (1, 0, 0) z 0 0 33 [some (.ref 90), some (.int v1), d2, some (.int v3), d4] [.int s0] (xhp hi hl r) (xoI o) := by
  refine x_istore_n (pc' := 34) (L' := [some (.ref 90), some (.int v1), some (.int s0), some (.int v3), d4]) dX12_fewestOf_33 (Nat.le_of_ble_eq_true rfl) rfl rfl ?_
  refine x_iinc (pc' := 37) (v := (v3 + (1))) (L' := [some (.ref 90), some (.int v1), some (.int s0), some (.int (v3 + (1))), d4]) dX12_fewestOf_34 rfl rfl (Nat.le_of_ble_eq_true rfl) rfl rfl ?_
  refine x_goto (tgt := 5) dX12_fewestOf_37 (by decide) ?_
  exact hK5 _ _ _ _ _ _ _ _ h
def F_X12_fewestOf_5 : Nat → Int32 → Int32 → Int32 → (Nat → Nat → Int32) → (Nat → Nat → Int64) → xRr → Option (Int32 × xSt)
  | 0, _, _, _, _, _, _ => none
  | n + 1, v1, v2, v3, hi, hl, r => if (26 : Int32) ≤ v3 then some (v2, hi, hl, r) else xbI (F_X12_worstBehind v1 v3 hi hl r) (fun w3 hi3 hl3 r3 => if v2 ≤ ((1 : Int32) + w3) then F_X12_fewestOf_33 (F_X12_fewestOf_5 n) v1 v3 v2 hi3 hl3 r3 else F_X12_fewestOf_33 (F_X12_fewestOf_5 n) v1 v3 ((1 : Int32) + w3) hi3 hl3 r3)
set_option maxRecDepth 20000 in
set_option maxHeartbeats 2000000 in
theorem r_X12_fewestOf_5 : ∀ (n : Nat) (v1 : Int32) (v2 : Int32) (v3 : Int32) (d4 : Option Value) (hi : Nat → Nat → Int32) (hl : Nat → Nat → Int64) (r : xRr) (o : Int32 × xSt), F_X12_fewestOf_5 n v1 v2 v3 hi hl r = some o → xR (RX12, cX12_fewestOf, 5, false, 1) (1, 0, 0) z 0 0 5 [some (.ref 90), some (.int v1), some (.int v2), some (.int v3), d4] [] (xhp hi hl r) (xoI o) := by
  intro n
  induction n with
  | zero =>
    intro v1 v2 v3 d4 hi hl r o h
    have h : none = some o := h
    cases h
  | succ n ih =>
    intro v1 v2 v3 d4 hi hl r o h
    refine x_iload_n (pc' := 6) dX12_fewestOf_5 rfl rfl ?_
    refine x_bipush (pc' := 8) (x := 26) dX12_fewestOf_6 (by decide) rfl ?_
    refine xg_ite h (fun g1 h => ?_) (fun g1 h => ?_)
    · refine x_icmp_ge (tgt := 40) (pc' := 11) dX12_fewestOf_8 (by decide) rfl (fun _ => ?_) (fun hn => absurd g1 hn)
      refine x_iload_n (pc' := 41) dX12_fewestOf_40 rfl rfl ?_
      obtain rfl := Option.some.inj h
      exact x_iret dX12_fewestOf_41 rfl rfl (Nat.le_of_ble_eq_true rfl) rfl
    · refine x_icmp_ge (tgt := 40) (pc' := 11) dX12_fewestOf_8 (by decide) rfl (fun hn => absurd hn g1) (fun _ => ?_)
      refine x_iconst (pc' := 12) (x := 1) dX12_fewestOf_11 (by decide) rfl ?_
      refine x_aload_n (pc' := 13) dX12_fewestOf_12 rfl rfl ?_
      refine x_iload_n (pc' := 14) dX12_fewestOf_13 rfl rfl ?_
      refine x_iload_n (pc' := 15) dX12_fewestOf_14 rfl rfl ?_
      refine xg_bI h (fun w3 hi3 hl3 r3 e2 h => ?_)
      refine x_callV (pc' := 18) (S := [.int (1 : Int32)]) (As := [.int v1, .int v3]) (b' := (0, 0, 0)) dX12_fewestOf_15 l_X12_367 m_X12_worstBehind rfl rfl (show 90 < 122 by decide) rfl (Nat.le_of_ble_eq_true rfl) (Nat.le_of_ble_eq_true rfl) (Nat.le_of_ble_eq_true rfl) (Nat.le_of_ble_eq_true rfl) (r_X12_worstBehind _ _ _ _ _ _ e2) rfl ?_
      refine x_iadd (pc' := 19) dX12_fewestOf_18 rfl ?_
      refine x_istore (pc' := 21) (L' := [some (.ref 90), some (.int v1), some (.int v2), some (.int v3), some (.int ((1 : Int32) + w3))]) dX12_fewestOf_19 (Nat.le_of_ble_eq_true rfl) rfl rfl ?_
      refine x_iload (pc' := 23) dX12_fewestOf_21 rfl rfl ?_
      refine x_iload_n (pc' := 24) dX12_fewestOf_23 rfl rfl ?_
      refine xg_ite h (fun g4 h => ?_) (fun g4 h => ?_)
      · refine x_icmp_ge (tgt := 32) (pc' := 27) dX12_fewestOf_24 (by decide) rfl (fun _ => ?_) (fun hn => absurd g4 hn)
        refine x_iload_n (pc' := 33) dX12_fewestOf_32 rfl rfl ?_
        exact r_X12_fewestOf_33 (F_X12_fewestOf_5 n) ih _ _ _ _ _ _ _ _ _ h
      · refine x_icmp_ge (tgt := 32) (pc' := 27) dX12_fewestOf_24 (by decide) rfl (fun hn => absurd hn g4) (fun _ => ?_)
        refine x_iload (pc' := 29) dX12_fewestOf_27 rfl rfl ?_
        refine x_goto (tgt := 33) dX12_fewestOf_29 (by decide) ?_
        exact r_X12_fewestOf_33 (F_X12_fewestOf_5 n) ih _ _ _ _ _ _ _ _ _ h
def F_X12_fewestOf (v1 : Int32) (hi : Nat → Nat → Int32) (hl : Nat → Nat → Int64) (r : xRr) : Option (Int32 × xSt) := F_X12_fewestOf_5 1000000 v1 (99 : Int32) (0 : Int32) hi hl r
set_option maxRecDepth 20000 in
set_option maxHeartbeats 2000000 in
theorem r_X12_fewestOf (v1 : Int32) (hi : Nat → Nat → Int32) (hl : Nat → Nat → Int64) (r : xRr) (o : Int32 × xSt) (h : F_X12_fewestOf v1 hi hl r = some o) : xM yX12_fewestOf cX12_fewestOf 5 1 (1, 0, 0) z [.ref 90, .int v1] (xhp hi hl r) (xoI o) := by
  refine x_meth2 (C := RX12) (ini := false) (L := [some (.ref 90), some (.int v1), none, none, none]) rfl (by decide) (fun h9 => by cases h9) (by decide) (Nat.le_of_ble_eq_true rfl) rfl ?_
  refine x_bipush (pc' := 2) (x := 99) dX12_fewestOf_0 (by decide) rfl ?_
  refine x_istore_n (pc' := 3) (L' := [some (.ref 90), some (.int v1), some (.int (99 : Int32)), none, none]) dX12_fewestOf_2 (Nat.le_of_ble_eq_true rfl) rfl rfl ?_
  refine x_iconst (pc' := 4) (x := 0) dX12_fewestOf_3 (by decide) rfl ?_
  refine x_istore_n (pc' := 5) (L' := [some (.ref 90), some (.int v1), some (.int (99 : Int32)), some (.int (0 : Int32)), none]) dX12_fewestOf_4 (Nat.le_of_ble_eq_true rfl) rfl rfl ?_
  exact r_X12_fewestOf_5 1000000 _ _ _ _ _ _ _ _ h
def F_X12_part_23 (K15 : Int32 → (Nat → Nat → Int32) → (Nat → Nat → Int64) → xRr → Option (xSt)) : Nat → Int32 → Int32 → (Nat → Nat → Int32) → (Nat → Nat → Int64) → xRr → Option (xSt)
  | 0, _, _, _, _, _ => none
  | n + 1, v1, v2, hi, hl, r => if (13 : Int32) ≤ v2 then K15 (v1 + (1)) hi hl r else xbI (F_X12_came v2 v1 hi hl r) (fun w3 hi3 hl3 r3 => if xok (((4 : Int32) * v1) + w3) 104 = true then (F_X12_part_23 K15 n) v1 (v2 + (1)) (xu hi3 121 (Int32.toNatClampNeg (((4 : Int32) * v1) + w3)) ((hi3 121 (Int32.toNatClampNeg (((4 : Int32) * v1) + w3))) ||| ((1 : Int32) <<< (v2 &&& 31)))) hl3 r3 else none)
set_option maxRecDepth 20000 in
set_option maxHeartbeats 2000000 in
theorem r_X12_part_23 (K15 : Int32 → (Nat → Nat → Int32) → (Nat → Nat → Int64) → xRr → Option (xSt)) (hK15 : ∀ (v1 : Int32) (d2 : Option Value) (hi : Nat → Nat → Int32) (hl : Nat → Nat → Int64) (r : xRr) (o : xSt), K15 v1 hi hl r = some o → xR (RX12, cX12_part, 3, false, 0) (4, 0, 0) z 0 0 15 [some (.ref 90), some (.int v1), d2] [] (xhp hi hl r) (xoV o)) : ∀ (n : Nat) (v1 : Int32) (v2 : Int32) (hi : Nat → Nat → Int32) (hl : Nat → Nat → Int64) (r : xRr) (o : xSt), F_X12_part_23 K15 n v1 v2 hi hl r = some o → xR (RX12, cX12_part, 3, false, 0) (4, 0, 0) z 0 0 23 [some (.ref 90), some (.int v1), some (.int v2)] [] (xhp hi hl r) (xoV o) := by
  intro n
  induction n with
  | zero =>
    intro v1 v2 hi hl r o h
    have h : none = some o := h
    cases h
  | succ n ih =>
    intro v1 v2 hi hl r o h
    refine x_iload_n (pc' := 24) dX12_part_23 rfl rfl ?_
    refine x_bipush (pc' := 26) (x := 13) dX12_part_24 (by decide) rfl ?_
    refine xg_ite h (fun g1 h => ?_) (fun g1 h => ?_)
    · refine x_icmp_ge (tgt := 56) (pc' := 29) dX12_part_26 (by decide) rfl (fun _ => ?_) (fun hn => absurd g1 hn)
      refine x_iinc (pc' := 59) (v := (v1 + (1))) (L' := [some (.ref 90), some (.int (v1 + (1))), some (.int v2)]) dX12_part_56 rfl rfl (Nat.le_of_ble_eq_true rfl) rfl rfl ?_
      refine x_goto (tgt := 15) dX12_part_59 (by decide) ?_
      exact hK15 _ _ _ _ _ _ h
    · refine x_icmp_ge (tgt := 56) (pc' := 29) dX12_part_26 (by decide) rfl (fun hn => absurd hn g1) (fun _ => ?_)
      refine x_aload_n (pc' := 30) dX12_part_29 rfl rfl ?_
      refine x_getr (pc' := 33) (t := 121) dX12_part_30 f_X12_106 (by decide) rfl rfl rfl rfl ?_
      refine x_iconst (pc' := 34) (x := 4) dX12_part_33 (by decide) rfl ?_
      refine x_iload_n (pc' := 35) dX12_part_34 rfl rfl ?_
      refine x_imul (pc' := 36) dX12_part_35 rfl ?_
      refine x_aload_n (pc' := 37) dX12_part_36 rfl rfl ?_
      refine x_iload_n (pc' := 38) dX12_part_37 rfl rfl ?_
      refine x_iload_n (pc' := 39) dX12_part_38 rfl rfl ?_
      refine xg_bI h (fun w3 hi3 hl3 r3 e2 h => ?_)
      refine x_callV (pc' := 42) (S := [.int ((4 : Int32) * v1), .ref 121]) (As := [.int v2, .int v1]) (b' := (3, 0, 0)) dX12_part_39 l_X12_358 m_X12_came rfl rfl (show 90 < 122 by decide) rfl (Nat.le_of_ble_eq_true rfl) (Nat.le_of_ble_eq_true rfl) (Nat.le_of_ble_eq_true rfl) (Nat.le_of_ble_eq_true rfl) (r_X12_came _ _ _ _ _ _ e2) rfl ?_
      refine x_iadd (pc' := 43) dX12_part_42 rfl ?_
      refine x_dup2 (pc' := 44) dX12_part_43 rfl rfl rfl ?_
      refine xg_if h (fun g4 h => ?_)
      refine x_iald (pc' := 45) dX12_part_44 (by decide) rfl (xok_in g4) rfl ?_
      refine x_iconst (pc' := 46) (x := 1) dX12_part_45 (by decide) rfl ?_
      refine x_iload_n (pc' := 47) dX12_part_46 rfl rfl ?_
      refine x_ishl (pc' := 48) dX12_part_47 rfl ?_
      refine x_ior (pc' := 49) dX12_part_48 rfl ?_
      refine x_iast (pc' := 50) dX12_part_49 (by decide) rfl (xok_in g4) rfl ?_
      refine x_iinc (pc' := 53) (v := (v2 + (1))) (L' := [some (.ref 90), some (.int v1), some (.int (v2 + (1)))]) dX12_part_50 rfl rfl (Nat.le_of_ble_eq_true rfl) rfl rfl ?_
      refine x_goto (tgt := 23) dX12_part_53 (by decide) ?_
      exact ih _ _ _ _ _ _ h
def F_X12_part_93 (K64 : Int32 → (Nat → Nat → Int32) → (Nat → Nat → Int64) → xRr → Option (xSt)) (v1 : Int32) (s1 : Int32) (s2 : Int32) (hi : Nat → Nat → Int32) (hl : Nat → Nat → Int64) (r : xRr) : Option (xSt) := if xok s1 8192 = true then K64 (v1 + (1)) (xu hi 112 (Int32.toNatClampNeg s1) (vp_nar .byte (Int8.toInt32 (Int32.toInt8 s2)))) hl r else none
set_option maxRecDepth 20000 in
set_option maxHeartbeats 2000000 in
theorem r_X12_part_93 (K64 : Int32 → (Nat → Nat → Int32) → (Nat → Nat → Int64) → xRr → Option (xSt)) (hK64 : ∀ (v1 : Int32) (d2 : Option Value) (hi : Nat → Nat → Int32) (hl : Nat → Nat → Int64) (r : xRr) (o : xSt), K64 v1 hi hl r = some o → xR (RX12, cX12_part, 3, false, 0) (4, 0, 0) z 0 0 64 [some (.ref 90), some (.int v1), d2] [] (xhp hi hl r) (xoV o)) (v1 : Int32) (s1 : Int32) (s2 : Int32) (d2 : Option Value) (hi : Nat → Nat → Int32) (hl : Nat → Nat → Int64) (r : xRr) (o : xSt) (h : F_X12_part_93 K64 v1 s1 s2 hi hl r = some o) : xR (RX12, cX12_part, 3, false, 0) (4, 0, 0) z 0 0 93 [some (.ref 90), some (.int v1), d2] [.int s2, .int s1, .ref 112] (xhp hi hl r) (xoV o) := by
  refine x_i2b (pc' := 94) dX12_part_93 rfl ?_
  refine xg_if h (fun g1 h => ?_)
  refine x_bast (pc' := 95) dX12_part_94 (by decide) rfl (xok_in g1) rfl ?_
  refine x_iinc (pc' := 98) (v := (v1 + (1))) (L' := [some (.ref 90), some (.int (v1 + (1))), d2]) dX12_part_95 rfl rfl (Nat.le_of_ble_eq_true rfl) rfl rfl ?_
  refine x_goto (tgt := 64) dX12_part_98 (by decide) ?_
  exact hK64 _ _ _ _ _ _ h
def F_X12_part_64 : Nat → Int32 → (Nat → Nat → Int32) → (Nat → Nat → Int64) → xRr → Option (xSt)
  | 0, _, _, _, _ => none
  | n + 1, v1, hi, hl, r => if (8192 : Int32) ≤ v1 then some (hi, hl, r) else xbP (F_X12_ones v1) (fun w3 => if (2 : Int32) ≤ w3 then xbI (F_X12_fewestOf v1 hi hl r) (fun w6 hi6 hl6 r6 => F_X12_part_93 (F_X12_part_64 n) v1 v1 w6 hi6 hl6 r6) else F_X12_part_93 (F_X12_part_64 n) v1 v1 (0 : Int32) hi hl r)
set_option maxRecDepth 20000 in
set_option maxHeartbeats 2000000 in
theorem r_X12_part_64 : ∀ (n : Nat) (v1 : Int32) (d2 : Option Value) (hi : Nat → Nat → Int32) (hl : Nat → Nat → Int64) (r : xRr) (o : xSt), F_X12_part_64 n v1 hi hl r = some o → xR (RX12, cX12_part, 3, false, 0) (4, 0, 0) z 0 0 64 [some (.ref 90), some (.int v1), d2] [] (xhp hi hl r) (xoV o) := by
  intro n
  induction n with
  | zero =>
    intro v1 d2 hi hl r o h
    have h : none = some o := h
    cases h
  | succ n ih =>
    intro v1 d2 hi hl r o h
    refine x_iload_n (pc' := 65) dX12_part_64 rfl rfl ?_
    refine x_sipush (pc' := 68) (x := 8192) dX12_part_65 (by decide) rfl ?_
    refine xg_ite h (fun g1 h => ?_) (fun g1 h => ?_)
    · refine x_icmp_ge (tgt := 101) (pc' := 71) dX12_part_68 (by decide) rfl (fun _ => ?_) (fun hn => absurd g1 hn)
      obtain rfl := Option.some.inj h
      exact x_vret dX12_part_101 rfl rfl (Nat.le_of_ble_eq_true rfl) rfl
    · refine x_icmp_ge (tgt := 101) (pc' := 71) dX12_part_68 (by decide) rfl (fun hn => absurd hn g1) (fun _ => ?_)
      refine x_aload_n (pc' := 72) dX12_part_71 rfl rfl ?_
      refine x_getr (pc' := 75) (t := 112) dX12_part_72 f_X12_78 (by decide) rfl rfl rfl rfl ?_
      refine x_iload_n (pc' := 76) dX12_part_75 rfl rfl ?_
      refine x_iload_n (pc' := 77) dX12_part_76 rfl rfl ?_
      refine xg_bP h (fun w3 e2 h => ?_)
      refine x_callS (pc' := 80) (S := [.int v1, .ref 112]) (As := [.int v1]) (b' := (0, 0, 0)) dX12_part_77 l_X12_364 m_X12_ones rfl rfl (Nat.le_of_ble_eq_true rfl) (Nat.le_of_ble_eq_true rfl) (Nat.le_of_ble_eq_true rfl) (Nat.le_of_ble_eq_true rfl) (r_X12_ones _ _ _ e2) rfl ?_
      refine x_iconst (pc' := 81) (x := 2) dX12_part_80 (by decide) rfl ?_
      refine xg_ite h (fun g4 h => ?_) (fun g4 h => ?_)
      · refine x_icmp_ge (tgt := 88) (pc' := 84) dX12_part_81 (by decide) rfl (fun _ => ?_) (fun hn => absurd g4 hn)
        refine x_aload_n (pc' := 89) dX12_part_88 rfl rfl ?_
        refine x_iload_n (pc' := 90) dX12_part_89 rfl rfl ?_
        refine xg_bI h (fun w6 hi6 hl6 r6 e5 h => ?_)
        refine x_callV (pc' := 93) (S := [.int v1, .ref 112]) (As := [.int v1]) (b' := (1, 0, 0)) dX12_part_90 l_X12_374 m_X12_fewestOf rfl rfl (show 90 < 122 by decide) rfl (Nat.le_of_ble_eq_true rfl) (Nat.le_of_ble_eq_true rfl) (Nat.le_of_ble_eq_true rfl) (Nat.le_of_ble_eq_true rfl) (r_X12_fewestOf _ _ _ _ _ e5) rfl ?_
        exact r_X12_part_93 (F_X12_part_64 n) ih _ _ _ _ _ _ _ _ h
      · refine x_icmp_ge (tgt := 88) (pc' := 84) dX12_part_81 (by decide) rfl (fun hn => absurd hn g4) (fun _ => ?_)
        refine x_iconst (pc' := 85) (x := 0) dX12_part_84 (by decide) rfl ?_
        refine x_goto (tgt := 93) dX12_part_85 (by decide) ?_
        exact r_X12_part_93 (F_X12_part_64 n) ih _ _ _ _ _ _ _ _ h
def F_X12_part_15 : Nat → Int32 → (Nat → Nat → Int32) → (Nat → Nat → Int64) → xRr → Option (xSt)
  | 0, _, _, _, _ => none
  | n + 1, v1, hi, hl, r => if (26 : Int32) ≤ v1 then F_X12_part_64 1000000 (0 : Int32) hi hl r else F_X12_part_23 (F_X12_part_15 n) 1000000 v1 (0 : Int32) hi hl r
set_option maxRecDepth 20000 in
set_option maxHeartbeats 2000000 in
theorem r_X12_part_15 : ∀ (n : Nat) (v1 : Int32) (d2 : Option Value) (hi : Nat → Nat → Int32) (hl : Nat → Nat → Int64) (r : xRr) (o : xSt), F_X12_part_15 n v1 hi hl r = some o → xR (RX12, cX12_part, 3, false, 0) (4, 0, 0) z 0 0 15 [some (.ref 90), some (.int v1), d2] [] (xhp hi hl r) (xoV o) := by
  intro n
  induction n with
  | zero =>
    intro v1 d2 hi hl r o h
    have h : none = some o := h
    cases h
  | succ n ih =>
    intro v1 d2 hi hl r o h
    refine x_iload_n (pc' := 16) dX12_part_15 rfl rfl ?_
    refine x_bipush (pc' := 18) (x := 26) dX12_part_16 (by decide) rfl ?_
    refine xg_ite h (fun g1 h => ?_) (fun g1 h => ?_)
    · refine x_icmp_ge (tgt := 62) (pc' := 21) dX12_part_18 (by decide) rfl (fun _ => ?_) (fun hn => absurd g1 hn)
      refine x_iconst (pc' := 63) (x := 0) dX12_part_62 (by decide) rfl ?_
      refine x_istore_n (pc' := 64) (L' := [some (.ref 90), some (.int (0 : Int32)), d2]) dX12_part_63 (Nat.le_of_ble_eq_true rfl) rfl rfl ?_
      exact r_X12_part_64 1000000 _ _ _ _ _ _ h
    · refine x_icmp_ge (tgt := 62) (pc' := 21) dX12_part_18 (by decide) rfl (fun hn => absurd hn g1) (fun _ => ?_)
      refine x_iconst (pc' := 22) (x := 0) dX12_part_21 (by decide) rfl ?_
      refine x_istore_n (pc' := 23) (L' := [some (.ref 90), some (.int v1), some (.int (0 : Int32))]) dX12_part_22 (Nat.le_of_ble_eq_true rfl) rfl rfl ?_
      exact r_X12_part_23 (F_X12_part_15 n) ih 1000000 _ _ _ _ _ _ h
def F_X12_part (hi : Nat → Nat → Int32) (hl : Nat → Nat → Int64) (r : xRr) : Option (xSt) := if (hi 90 29) = 0 then F_X12_part_15 1000000 (0 : Int32) (xu hi 90 29 (1 : Int32)) hl r else some (hi, hl, r)
set_option maxRecDepth 20000 in
set_option maxHeartbeats 2000000 in
theorem r_X12_part (hi : Nat → Nat → Int32) (hl : Nat → Nat → Int64) (r : xRr) (o : xSt) (h : F_X12_part hi hl r = some o) : xM yX12_part cX12_part 3 0 (4, 0, 0) z [.ref 90] (xhp hi hl r) (xoV o) := by
  refine x_meth2 (C := RX12) (ini := false) (L := [some (.ref 90), none, none]) rfl (by decide) (fun h9 => by cases h9) (by decide) (Nat.le_of_ble_eq_true rfl) rfl ?_
  refine x_aload_n (pc' := 1) dX12_part_0 rfl rfl ?_
  refine x_geti (pc' := 4) dX12_part_1 f_X12_370 (by decide) rfl rfl rfl ?_
  refine xg_ite h (fun g1 h => ?_) (fun g1 h => ?_)
  · refine x_if_eq (tgt := 8) (pc' := 7) dX12_part_4 (by decide) rfl (fun _ => ?_) (fun hn => absurd g1 hn)
    refine x_aload_n (pc' := 9) dX12_part_8 rfl rfl ?_
    refine x_iconst (pc' := 10) (x := 1) dX12_part_9 (by decide) rfl ?_
    refine x_putz (pc' := 13) (Or.inr rfl) dX12_part_10 f_X12_370 (Or.inl rfl) (by decide) rfl rfl rfl ?_
    refine x_iconst (pc' := 14) (x := 0) dX12_part_13 (by decide) rfl ?_
    refine x_istore_n (pc' := 15) (L' := [some (.ref 90), some (.int (0 : Int32)), none]) dX12_part_14 (Nat.le_of_ble_eq_true rfl) rfl rfl ?_
    exact r_X12_part_15 1000000 _ _ _ _ _ _ h
  · refine x_if_eq (tgt := 8) (pc' := 7) dX12_part_4 (by decide) rfl (fun hn => absurd hn g1) (fun _ => ?_)
    obtain rfl := Option.some.inj h
    exact x_vret dX12_part_7 rfl rfl (Nat.le_of_ble_eq_true rfl) rfl
def F_X12_fewest_56 : Nat → Int32 → Int32 → (Nat → Nat → Int32) → (Nat → Nat → Int64) → xRr → Option (Int32 × xSt)
  | 0, _, _, _, _, _ => none
  | n + 1, v2, v3, hi, hl, r => xbI (F_X12_worstBehind v2 v3 hi hl r) (fun w2 hi2 hl2 r2 => if xok v2 8192 = true then if ((1 : Int32) + w2) = (hi2 112 (Int32.toNatClampNeg v2)) then some (v3, hi2, hl2, r2) else (F_X12_fewest_56 n) v2 (v3 + (1)) hi2 hl2 r2 else none)
set_option maxRecDepth 20000 in
set_option maxHeartbeats 2000000 in
theorem r_X12_fewest_56 : ∀ (n : Nat) (v2 : Int32) (v3 : Int32) (d1 : Option Value) (hi : Nat → Nat → Int32) (hl : Nat → Nat → Int64) (r : xRr) (o : Int32 × xSt), F_X12_fewest_56 n v2 v3 hi hl r = some o → xR (RX12, cX12_fewest, 4, false, 1) (5, 0, 0) z 0 0 56 [some (.ref 90), d1, some (.int v2), some (.int v3)] [] (xhp hi hl r) (xoI o) := by
  intro n
  induction n with
  | zero =>
    intro v2 v3 d1 hi hl r o h
    have h : none = some o := h
    cases h
  | succ n ih =>
    intro v2 v3 d1 hi hl r o h
    refine x_iconst (pc' := 57) (x := 1) dX12_fewest_56 (by decide) rfl ?_
    refine x_aload_n (pc' := 58) dX12_fewest_57 rfl rfl ?_
    refine x_iload_n (pc' := 59) dX12_fewest_58 rfl rfl ?_
    refine x_iload_n (pc' := 60) dX12_fewest_59 rfl rfl ?_
    refine xg_bI h (fun w2 hi2 hl2 r2 e1 h => ?_)
    refine x_callV (pc' := 63) (S := [.int (1 : Int32)]) (As := [.int v2, .int v3]) (b' := (0, 0, 0)) dX12_fewest_60 l_X12_367 m_X12_worstBehind rfl rfl (show 90 < 122 by decide) rfl (Nat.le_of_ble_eq_true rfl) (Nat.le_of_ble_eq_true rfl) (Nat.le_of_ble_eq_true rfl) (Nat.le_of_ble_eq_true rfl) (r_X12_worstBehind _ _ _ _ _ _ e1) rfl ?_
    refine x_iadd (pc' := 64) dX12_fewest_63 rfl ?_
    refine x_aload_n (pc' := 65) dX12_fewest_64 rfl rfl ?_
    refine x_getr (pc' := 68) (t := 112) dX12_fewest_65 f_X12_78 (by decide) rfl rfl rfl rfl ?_
    refine x_iload_n (pc' := 69) dX12_fewest_68 rfl rfl ?_
    refine xg_if h (fun g3 h => ?_)
    refine x_bald (pc' := 70) dX12_fewest_69 (by decide) rfl (xok_in g3) rfl ?_
    refine xg_ite h (fun g4 h => ?_) (fun g4 h => ?_)
    · refine x_icmp_eq (tgt := 79) (pc' := 73) dX12_fewest_70 (by decide) rfl (fun _ => ?_) (fun hn => absurd g4 hn)
      refine x_iload_n (pc' := 80) dX12_fewest_79 rfl rfl ?_
      obtain rfl := Option.some.inj h
      exact x_iret dX12_fewest_80 rfl rfl (Nat.le_of_ble_eq_true rfl) rfl
    · refine x_icmp_eq (tgt := 79) (pc' := 73) dX12_fewest_70 (by decide) rfl (fun hn => absurd hn g4) (fun _ => ?_)
      refine x_iinc (pc' := 76) (v := (v3 + (1))) (L' := [some (.ref 90), d1, some (.int v2), some (.int (v3 + (1)))]) dX12_fewest_73 rfl rfl (Nat.le_of_ble_eq_true rfl) rfl rfl ?_
      refine x_goto (tgt := 56) dX12_fewest_76 (by decide) ?_
      exact ih _ _ _ _ _ _ _ h
def F_X12_fewest_38 (v1 : Int32) (v2 : Int32) (hi : Nat → Nat → Int32) (hl : Nat → Nat → Int64) (r : xRr) : Option (Int32 × xSt) := if v1 = 0 then if xok v2 8192 = true then some ((hi 112 (Int32.toNatClampNeg v2)), hi, hl, r) else none else some (((-20) : Int32), hi, hl, r)
set_option maxRecDepth 20000 in
set_option maxHeartbeats 2000000 in
theorem r_X12_fewest_38 (v1 : Int32) (v2 : Int32) (d3 : Option Value) (hi : Nat → Nat → Int32) (hl : Nat → Nat → Int64) (r : xRr) (o : Int32 × xSt) (h : F_X12_fewest_38 v1 v2 hi hl r = some o) : xR (RX12, cX12_fewest, 4, false, 1) (5, 0, 0) z 0 0 38 [some (.ref 90), some (.int v1), some (.int v2), d3] [] (xhp hi hl r) (xoI o) := by
  refine x_iload_n (pc' := 39) dX12_fewest_38 rfl rfl ?_
  refine xg_ite h (fun g1 h => ?_) (fun g1 h => ?_)
  · refine x_if_ne (tgt := 51) (pc' := 42) dX12_fewest_39 (by decide) rfl (fun hn => absurd g1 hn) (fun _ => ?_)
    refine x_aload_n (pc' := 43) dX12_fewest_42 rfl rfl ?_
    refine x_getr (pc' := 46) (t := 112) dX12_fewest_43 f_X12_78 (by decide) rfl rfl rfl rfl ?_
    refine x_iload_n (pc' := 47) dX12_fewest_46 rfl rfl ?_
    refine xg_if h (fun g2 h => ?_)
    refine x_bald (pc' := 48) dX12_fewest_47 (by decide) rfl (xok_in g2) rfl ?_
    refine x_goto (tgt := 53) dX12_fewest_48 (by decide) ?_
    obtain rfl := Option.some.inj h
    exact x_iret dX12_fewest_53 rfl rfl (Nat.le_of_ble_eq_true rfl) rfl
  · refine x_if_ne (tgt := 51) (pc' := 42) dX12_fewest_39 (by decide) rfl (fun _ => ?_) (fun hn => absurd hn g1)
    refine x_bipush (pc' := 53) (x := (-20)) dX12_fewest_51 (by decide) rfl ?_
    obtain rfl := Option.some.inj h
    exact x_iret dX12_fewest_53 rfl rfl (Nat.le_of_ble_eq_true rfl) rfl
def F_X12_fewest (v1 : Int32) (hi : Nat → Nat → Int32) (hl : Nat → Nat → Int64) (r : xRr) : Option (Int32 × xSt) := xbP (F_X12_in (Int32.toInt64 v1) (0 : Int64) (1 : Int64)) (fun w2 => if w2 = 0 then some (((-1) : Int32), (xu hi 90 0 (0 : Int32)), hl, r) else xbV (F_X12_part (xu hi 90 0 (0 : Int32)) hl r) (fun hi5 hl5 r5 => xbI (F_X12_left hi5 hl5 r5) (fun w7 hi7 hl7 r7 => if v1 = 0 then F_X12_fewest_38 v1 w7 hi7 hl7 r7 else xbP (F_X12_ones w7) (fun w10 => if (2 : Int32) ≤ w10 then F_X12_fewest_56 1000000 w7 (0 : Int32) hi7 hl7 r7 else F_X12_fewest_38 v1 w7 hi7 hl7 r7))))
set_option maxRecDepth 20000 in
set_option maxHeartbeats 2000000 in
theorem r_X12_fewest (v1 : Int32) (hi : Nat → Nat → Int32) (hl : Nat → Nat → Int64) (r : xRr) (o : Int32 × xSt) (h : F_X12_fewest v1 hi hl r = some o) : xM yX12_fewest cX12_fewest 4 1 (5, 0, 0) z [.ref 90, .int v1] (xhp hi hl r) (xoI o) := by
  refine x_meth2 (C := RX12) (ini := false) (L := [some (.ref 90), some (.int v1), none, none]) rfl (by decide) (fun h9 => by cases h9) (by decide) (Nat.le_of_ble_eq_true rfl) rfl ?_
  refine x_aload_n (pc' := 1) dX12_fewest_0 rfl rfl ?_
  refine x_iconst (pc' := 2) (x := 0) dX12_fewest_1 (by decide) rfl ?_
  refine x_puti (pc' := 5) dX12_fewest_2 f_X12_109 (Or.inl rfl) (by decide) rfl rfl rfl ?_
  refine x_iload_n (pc' := 6) dX12_fewest_5 rfl rfl ?_
  refine x_i2l (pc' := 7) dX12_fewest_6 rfl ?_
  refine x_lconst (pc' := 8) (x := 0) dX12_fewest_7 (by decide) rfl ?_
  refine x_lconst (pc' := 9) (x := 1) dX12_fewest_8 (by decide) rfl ?_
  refine xg_bP h (fun w2 e1 h => ?_)
  refine x_callS (pc' := 12) (S := []) (As := [.long (Int32.toInt64 v1), .long (0 : Int64), .long (1 : Int64)]) (b' := (0, 0, 0)) dX12_fewest_9 l_X12_118 m_X12_in rfl rfl (Nat.le_of_ble_eq_true rfl) (Nat.le_of_ble_eq_true rfl) (Nat.le_of_ble_eq_true rfl) (Nat.le_of_ble_eq_true rfl) (r_X12_in _ _ _ _ _ e1) rfl ?_
  refine xg_ite h (fun g3 h => ?_) (fun g3 h => ?_)
  · refine x_if_ne (tgt := 17) (pc' := 15) dX12_fewest_12 (by decide) rfl (fun hn => absurd g3 hn) (fun _ => ?_)
    refine x_iconst (pc' := 16) (x := (-1)) dX12_fewest_15 (by decide) rfl ?_
    obtain rfl := Option.some.inj h
    exact x_iret dX12_fewest_16 rfl rfl (Nat.le_of_ble_eq_true rfl) rfl
  · refine x_if_ne (tgt := 17) (pc' := 15) dX12_fewest_12 (by decide) rfl (fun _ => ?_) (fun hn => absurd hn g3)
    refine x_aload_n (pc' := 18) dX12_fewest_17 rfl rfl ?_
    refine xg_bV h (fun hi5 hl5 r5 e4 h => ?_)
    refine x_callV (pc' := 21) (S := []) (As := []) (b' := (4, 0, 0)) dX12_fewest_18 l_X12_377 m_X12_part rfl rfl (show 90 < 122 by decide) rfl (Nat.le_of_ble_eq_true rfl) (Nat.le_of_ble_eq_true rfl) (Nat.le_of_ble_eq_true rfl) (Nat.le_of_ble_eq_true rfl) (r_X12_part _ _ _ _ e4) rfl ?_
    refine x_aload_n (pc' := 22) dX12_fewest_21 rfl rfl ?_
    refine xg_bI h (fun w7 hi7 hl7 r7 e6 h => ?_)
    refine x_callV (pc' := 25) (S := []) (As := []) (b' := (4, 0, 0)) dX12_fewest_22 l_X12_361 m_X12_left rfl rfl (show 90 < 122 by decide) rfl (Nat.le_of_ble_eq_true rfl) (Nat.le_of_ble_eq_true rfl) (Nat.le_of_ble_eq_true rfl) (Nat.le_of_ble_eq_true rfl) (r_X12_left _ _ _ _ e6) rfl ?_
    refine x_istore_n (pc' := 26) (L' := [some (.ref 90), some (.int v1), some (.int w7), none]) dX12_fewest_25 (Nat.le_of_ble_eq_true rfl) rfl rfl ?_
    refine x_iload_n (pc' := 27) dX12_fewest_26 rfl rfl ?_
    refine xg_ite h (fun g8 h => ?_) (fun g8 h => ?_)
    · refine x_if_eq (tgt := 38) (pc' := 30) dX12_fewest_27 (by decide) rfl (fun _ => ?_) (fun hn => absurd g8 hn)
      exact r_X12_fewest_38 _ _ _ _ _ _ _ h
    · refine x_if_eq (tgt := 38) (pc' := 30) dX12_fewest_27 (by decide) rfl (fun hn => absurd hn g8) (fun _ => ?_)
      refine x_iload_n (pc' := 31) dX12_fewest_30 rfl rfl ?_
      refine xg_bP h (fun w10 e9 h => ?_)
      refine x_callS (pc' := 34) (S := []) (As := [.int w7]) (b' := (0, 0, 0)) dX12_fewest_31 l_X12_364 m_X12_ones rfl rfl (Nat.le_of_ble_eq_true rfl) (Nat.le_of_ble_eq_true rfl) (Nat.le_of_ble_eq_true rfl) (Nat.le_of_ble_eq_true rfl) (r_X12_ones _ _ _ e9) rfl ?_
      refine x_iconst (pc' := 35) (x := 2) dX12_fewest_34 (by decide) rfl ?_
      refine xg_ite h (fun g11 h => ?_) (fun g11 h => ?_)
      · refine x_icmp_ge (tgt := 54) (pc' := 38) dX12_fewest_35 (by decide) rfl (fun _ => ?_) (fun hn => absurd g11 hn)
        refine x_iconst (pc' := 55) (x := 0) dX12_fewest_54 (by decide) rfl ?_
        refine x_istore_n (pc' := 56) (L' := [some (.ref 90), some (.int v1), some (.int w7), some (.int (0 : Int32))]) dX12_fewest_55 (Nat.le_of_ble_eq_true rfl) rfl rfl ?_
        exact r_X12_fewest_56 1000000 _ _ _ _ _ _ _ h
      · refine x_icmp_ge (tgt := 54) (pc' := 38) dX12_fewest_35 (by decide) rfl (fun hn => absurd hn g11) (fun _ => ?_)
        exact r_X12_fewest_38 _ _ _ _ _ _ _ h
def F_X12_keep (v1 : Int32) (hi : Nat → Nat → Int32) (hl : Nat → Nat → Int64) (r : xRr) : Option (Int32 × xSt) := xbP (F_X12_in (Int32.toInt64 v1) (0 : Int64) (1 : Int64)) (fun w2 => if w2 = 0 then some (((-1) : Int32), (xu hi 90 0 (0 : Int32)), hl, r) else xbV (F_X12_copy 104 105 ((72 : Int32) * v1) (xu hi 90 0 (0 : Int32)) hl r) (fun hi5 hl5 r5 => if xok v1 2 = true then some (((xu hi5 106 (Int32.toNatClampNeg v1) (hi5 90 1)) 90 1), (xu hi5 106 (Int32.toNatClampNeg v1) (hi5 90 1)), hl5, r5) else none))
set_option maxRecDepth 20000 in
set_option maxHeartbeats 2000000 in
theorem r_X12_keep (v1 : Int32) (hi : Nat → Nat → Int32) (hl : Nat → Nat → Int64) (r : xRr) (o : Int32 × xSt) (h : F_X12_keep v1 hi hl r = some o) : xM yX12_keep cX12_keep 2 1 (1, 0, 0) z [.ref 90, .int v1] (xhp hi hl r) (xoI o) := by
  refine x_meth2 (C := RX12) (ini := false) (L := [some (.ref 90), some (.int v1)]) rfl (by decide) (fun h9 => by cases h9) (by decide) (Nat.le_of_ble_eq_true rfl) rfl ?_
  refine x_aload_n (pc' := 1) dX12_keep_0 rfl rfl ?_
  refine x_iconst (pc' := 2) (x := 0) dX12_keep_1 (by decide) rfl ?_
  refine x_puti (pc' := 5) dX12_keep_2 f_X12_109 (Or.inl rfl) (by decide) rfl rfl rfl ?_
  refine x_iload_n (pc' := 6) dX12_keep_5 rfl rfl ?_
  refine x_i2l (pc' := 7) dX12_keep_6 rfl ?_
  refine x_lconst (pc' := 8) (x := 0) dX12_keep_7 (by decide) rfl ?_
  refine x_lconst (pc' := 9) (x := 1) dX12_keep_8 (by decide) rfl ?_
  refine xg_bP h (fun w2 e1 h => ?_)
  refine x_callS (pc' := 12) (S := []) (As := [.long (Int32.toInt64 v1), .long (0 : Int64), .long (1 : Int64)]) (b' := (0, 0, 0)) dX12_keep_9 l_X12_118 m_X12_in rfl rfl (Nat.le_of_ble_eq_true rfl) (Nat.le_of_ble_eq_true rfl) (Nat.le_of_ble_eq_true rfl) (Nat.le_of_ble_eq_true rfl) (r_X12_in _ _ _ _ _ e1) rfl ?_
  refine xg_ite h (fun g3 h => ?_) (fun g3 h => ?_)
  · refine x_if_ne (tgt := 17) (pc' := 15) dX12_keep_12 (by decide) rfl (fun hn => absurd g3 hn) (fun _ => ?_)
    refine x_iconst (pc' := 16) (x := (-1)) dX12_keep_15 (by decide) rfl ?_
    obtain rfl := Option.some.inj h
    exact x_iret dX12_keep_16 rfl rfl (Nat.le_of_ble_eq_true rfl) rfl
  · refine x_if_ne (tgt := 17) (pc' := 15) dX12_keep_12 (by decide) rfl (fun _ => ?_) (fun hn => absurd hn g3)
    refine x_aload_n (pc' := 18) dX12_keep_17 rfl rfl ?_
    refine x_aload_n (pc' := 19) dX12_keep_18 rfl rfl ?_
    refine x_getr (pc' := 22) (t := 104) dX12_keep_19 f_X12_54 (by decide) rfl rfl rfl rfl ?_
    refine x_aload_n (pc' := 23) dX12_keep_22 rfl rfl ?_
    refine x_getr (pc' := 26) (t := 105) dX12_keep_23 f_X12_57 (by decide) rfl rfl rfl rfl ?_
    refine x_bipush (pc' := 28) (x := 72) dX12_keep_26 (by decide) rfl ?_
    refine x_iload_n (pc' := 29) dX12_keep_28 rfl rfl ?_
    refine x_imul (pc' := 30) dX12_keep_29 rfl ?_
    refine xg_bV h (fun hi5 hl5 r5 e4 h => ?_)
    refine x_callV (pc' := 33) (S := []) (As := [.ref 104, .ref 105, .int ((72 : Int32) * v1)]) (b' := (0, 0, 0)) dX12_keep_30 l_X12_248 m_X12_copy rfl rfl (show 90 < 122 by decide) rfl (Nat.le_of_ble_eq_true rfl) (Nat.le_of_ble_eq_true rfl) (Nat.le_of_ble_eq_true rfl) (Nat.le_of_ble_eq_true rfl) (r_X12_copy _ _ _ _ _ _ _ e4) rfl ?_
    refine x_aload_n (pc' := 34) dX12_keep_33 rfl rfl ?_
    refine x_getr (pc' := 37) (t := 106) dX12_keep_34 f_X12_60 (by decide) rfl rfl rfl rfl ?_
    refine x_iload_n (pc' := 38) dX12_keep_37 rfl rfl ?_
    refine x_aload_n (pc' := 39) dX12_keep_38 rfl rfl ?_
    refine x_geti (pc' := 42) dX12_keep_39 f_X12_140 (by decide) rfl rfl rfl ?_
    refine xg_if h (fun g6 h => ?_)
    refine x_iast (pc' := 43) dX12_keep_42 (by decide) rfl (xok_in g6) rfl ?_
    refine x_aload_n (pc' := 44) dX12_keep_43 rfl rfl ?_
    refine x_geti (pc' := 47) dX12_keep_44 f_X12_140 (by decide) rfl rfl rfl ?_
    obtain rfl := Option.some.inj h
    exact x_iret dX12_keep_47 rfl rfl (Nat.le_of_ble_eq_true rfl) rfl
def F_X12_back (v1 : Int32) (hi : Nat → Nat → Int32) (hl : Nat → Nat → Int64) (r : xRr) : Option (Int32 × xSt) := xbP (F_X12_in (Int32.toInt64 v1) (0 : Int64) (1 : Int64)) (fun w2 => if w2 = 0 then some (((-1) : Int32), (xu hi 90 0 (0 : Int32)), hl, r) else if xok v1 2 = true then if ((xu hi 90 0 (0 : Int32)) 106 (Int32.toNatClampNeg v1)) = ((-20) : Int32) then some (((-2) : Int32), (xu hi 90 0 (0 : Int32)), hl, r) else xbV (F_X12_copyBack 104 105 ((72 : Int32) * v1) ((12 : Int32) * ((xu hi 90 0 (0 : Int32)) 106 (Int32.toNatClampNeg v1))) (xu hi 90 0 (0 : Int32)) hl r) (fun hi7 hl7 r7 => some (((xu hi7 90 15 (0 : Int32)) 106 (Int32.toNatClampNeg v1)), (xu hi7 90 15 (0 : Int32)), hl7, r7)) else none)
set_option maxRecDepth 20000 in
set_option maxHeartbeats 2000000 in
theorem r_X12_back (v1 : Int32) (hi : Nat → Nat → Int32) (hl : Nat → Nat → Int64) (r : xRr) (o : Int32 × xSt) (h : F_X12_back v1 hi hl r = some o) : xM yX12_back cX12_back 2 1 (1, 0, 0) z [.ref 90, .int v1] (xhp hi hl r) (xoI o) := by
  refine x_meth2 (C := RX12) (ini := false) (L := [some (.ref 90), some (.int v1)]) rfl (by decide) (fun h9 => by cases h9) (by decide) (Nat.le_of_ble_eq_true rfl) rfl ?_
  refine x_aload_n (pc' := 1) dX12_back_0 rfl rfl ?_
  refine x_iconst (pc' := 2) (x := 0) dX12_back_1 (by decide) rfl ?_
  refine x_puti (pc' := 5) dX12_back_2 f_X12_109 (Or.inl rfl) (by decide) rfl rfl rfl ?_
  refine x_iload_n (pc' := 6) dX12_back_5 rfl rfl ?_
  refine x_i2l (pc' := 7) dX12_back_6 rfl ?_
  refine x_lconst (pc' := 8) (x := 0) dX12_back_7 (by decide) rfl ?_
  refine x_lconst (pc' := 9) (x := 1) dX12_back_8 (by decide) rfl ?_
  refine xg_bP h (fun w2 e1 h => ?_)
  refine x_callS (pc' := 12) (S := []) (As := [.long (Int32.toInt64 v1), .long (0 : Int64), .long (1 : Int64)]) (b' := (0, 0, 0)) dX12_back_9 l_X12_118 m_X12_in rfl rfl (Nat.le_of_ble_eq_true rfl) (Nat.le_of_ble_eq_true rfl) (Nat.le_of_ble_eq_true rfl) (Nat.le_of_ble_eq_true rfl) (r_X12_in _ _ _ _ _ e1) rfl ?_
  refine xg_ite h (fun g3 h => ?_) (fun g3 h => ?_)
  · refine x_if_ne (tgt := 17) (pc' := 15) dX12_back_12 (by decide) rfl (fun hn => absurd g3 hn) (fun _ => ?_)
    refine x_iconst (pc' := 16) (x := (-1)) dX12_back_15 (by decide) rfl ?_
    obtain rfl := Option.some.inj h
    exact x_iret dX12_back_16 rfl rfl (Nat.le_of_ble_eq_true rfl) rfl
  · refine x_if_ne (tgt := 17) (pc' := 15) dX12_back_12 (by decide) rfl (fun _ => ?_) (fun hn => absurd hn g3)
    refine x_aload_n (pc' := 18) dX12_back_17 rfl rfl ?_
    refine x_getr (pc' := 21) (t := 106) dX12_back_18 f_X12_60 (by decide) rfl rfl rfl rfl ?_
    refine x_iload_n (pc' := 22) dX12_back_21 rfl rfl ?_
    refine xg_if h (fun g4 h => ?_)
    refine x_iald (pc' := 23) dX12_back_22 (by decide) rfl (xok_in g4) rfl ?_
    refine x_bipush (pc' := 25) (x := (-20)) dX12_back_23 (by decide) rfl ?_
    refine xg_ite h (fun g5 h => ?_) (fun g5 h => ?_)
    · refine x_icmp_ne (tgt := 31) (pc' := 28) dX12_back_25 (by decide) rfl (fun hn => absurd g5 hn) (fun _ => ?_)
      refine x_bipush (pc' := 30) (x := (-2)) dX12_back_28 (by decide) rfl ?_
      obtain rfl := Option.some.inj h
      exact x_iret dX12_back_30 rfl rfl (Nat.le_of_ble_eq_true rfl) rfl
    · refine x_icmp_ne (tgt := 31) (pc' := 28) dX12_back_25 (by decide) rfl (fun _ => ?_) (fun hn => absurd hn g5)
      refine x_aload_n (pc' := 32) dX12_back_31 rfl rfl ?_
      refine x_aload_n (pc' := 33) dX12_back_32 rfl rfl ?_
      refine x_getr (pc' := 36) (t := 104) dX12_back_33 f_X12_54 (by decide) rfl rfl rfl rfl ?_
      refine x_aload_n (pc' := 37) dX12_back_36 rfl rfl ?_
      refine x_getr (pc' := 40) (t := 105) dX12_back_37 f_X12_57 (by decide) rfl rfl rfl rfl ?_
      refine x_bipush (pc' := 42) (x := 72) dX12_back_40 (by decide) rfl ?_
      refine x_iload_n (pc' := 43) dX12_back_42 rfl rfl ?_
      refine x_imul (pc' := 44) dX12_back_43 rfl ?_
      refine x_bipush (pc' := 46) (x := 12) dX12_back_44 (by decide) rfl ?_
      refine x_aload_n (pc' := 47) dX12_back_46 rfl rfl ?_
      refine x_getr (pc' := 50) (t := 106) dX12_back_47 f_X12_60 (by decide) rfl rfl rfl rfl ?_
      refine x_iload_n (pc' := 51) dX12_back_50 rfl rfl ?_
      refine x_iald (pc' := 52) dX12_back_51 (by decide) rfl (xok_in g4) rfl ?_
      refine x_imul (pc' := 53) dX12_back_52 rfl ?_
      refine xg_bV h (fun hi7 hl7 r7 e6 h => ?_)
      refine x_callV (pc' := 56) (S := []) (As := [.ref 104, .ref 105, .int ((72 : Int32) * v1), .int ((12 : Int32) * ((xu hi 90 0 (0 : Int32)) 106 (Int32.toNatClampNeg v1)))]) (b' := (0, 0, 0)) dX12_back_53 l_X12_290 m_X12_copyBack rfl rfl (show 90 < 122 by decide) rfl (Nat.le_of_ble_eq_true rfl) (Nat.le_of_ble_eq_true rfl) (Nat.le_of_ble_eq_true rfl) (Nat.le_of_ble_eq_true rfl) (r_X12_copyBack _ _ _ _ _ _ _ _ e6) rfl ?_
      refine x_aload_n (pc' := 57) dX12_back_56 rfl rfl ?_
      refine x_iconst (pc' := 58) (x := 0) dX12_back_57 (by decide) rfl ?_
      refine x_puti (pc' := 61) dX12_back_58 f_X12_169 (Or.inl rfl) (by decide) rfl rfl rfl ?_
      refine x_aload_n (pc' := 62) dX12_back_61 rfl rfl ?_
      refine x_getr (pc' := 65) (t := 106) dX12_back_62 f_X12_60 (by decide) rfl rfl rfl rfl ?_
      refine x_iload_n (pc' := 66) dX12_back_65 rfl rfl ?_
      refine x_iald (pc' := 67) dX12_back_66 (by decide) rfl (xok_in g4) rfl ?_
      obtain rfl := Option.some.inj h
      exact x_iret dX12_back_67 rfl rfl (Nat.le_of_ble_eq_true rfl) rfl
def F_X12_count (v1 : Int32) (hi : Nat → Nat → Int32) (hl : Nat → Nat → Int64) (r : xRr) : Option (Int32 × xSt) := xbP (F_X12_in (Int32.toInt64 v1) (0 : Int64) (5 : Int64)) (fun w2 => if w2 = 0 then some (((-1) : Int32), (xu hi 90 0 (0 : Int32)), hl, r) else if (3 : Int32) ≤ v1 then if v1 = (3 : Int32) then xbI (F_X12_open (xu hi 90 0 (0 : Int32)) hl r) (fun w7 hi7 hl7 r7 => some (w7, hi7, hl7, r7)) else if v1 = (4 : Int32) then some (((xu hi 90 0 (0 : Int32)) 90 26), (xu hi 90 0 (0 : Int32)), hl, r) else some (((xu hi 90 0 (0 : Int32)) 90 15), (xu hi 90 0 (0 : Int32)), hl, r) else if v1 = 0 then some (((xu hi 90 0 (0 : Int32)) 90 1), (xu hi 90 0 (0 : Int32)), hl, r) else if v1 = (1 : Int32) then some (((xu hi 90 0 (0 : Int32)) 90 6), (xu hi 90 0 (0 : Int32)), hl, r) else some (((xu hi 90 0 (0 : Int32)) 90 22), (xu hi 90 0 (0 : Int32)), hl, r))
set_option maxRecDepth 20000 in
set_option maxHeartbeats 2000000 in
theorem r_X12_count (v1 : Int32) (hi : Nat → Nat → Int32) (hl : Nat → Nat → Int64) (r : xRr) (o : Int32 × xSt) (h : F_X12_count v1 hi hl r = some o) : xM yX12_count cX12_count 2 1 (1, 0, 0) z [.ref 90, .int v1] (xhp hi hl r) (xoI o) := by
  refine x_meth2 (C := RX12) (ini := false) (L := [some (.ref 90), some (.int v1)]) rfl (by decide) (fun h9 => by cases h9) (by decide) (Nat.le_of_ble_eq_true rfl) rfl ?_
  refine x_aload_n (pc' := 1) dX12_count_0 rfl rfl ?_
  refine x_iconst (pc' := 2) (x := 0) dX12_count_1 (by decide) rfl ?_
  refine x_puti (pc' := 5) dX12_count_2 f_X12_109 (Or.inl rfl) (by decide) rfl rfl rfl ?_
  refine x_iload_n (pc' := 6) dX12_count_5 rfl rfl ?_
  refine x_i2l (pc' := 7) dX12_count_6 rfl ?_
  refine x_lconst (pc' := 8) (x := 0) dX12_count_7 (by decide) rfl ?_
  refine x_ldc2 (pc' := 11) dX12_count_8 k_X12_380 rfl ?_
  refine xg_bP h (fun w2 e1 h => ?_)
  refine x_callS (pc' := 14) (S := []) (As := [.long (Int32.toInt64 v1), .long (0 : Int64), .long (5 : Int64)]) (b' := (0, 0, 0)) dX12_count_11 l_X12_118 m_X12_in rfl rfl (Nat.le_of_ble_eq_true rfl) (Nat.le_of_ble_eq_true rfl) (Nat.le_of_ble_eq_true rfl) (Nat.le_of_ble_eq_true rfl) (r_X12_in _ _ _ _ _ e1) rfl ?_
  refine xg_ite h (fun g3 h => ?_) (fun g3 h => ?_)
  · refine x_if_ne (tgt := 19) (pc' := 17) dX12_count_14 (by decide) rfl (fun hn => absurd g3 hn) (fun _ => ?_)
    refine x_iconst (pc' := 18) (x := (-1)) dX12_count_17 (by decide) rfl ?_
    obtain rfl := Option.some.inj h
    exact x_iret dX12_count_18 rfl rfl (Nat.le_of_ble_eq_true rfl) rfl
  · refine x_if_ne (tgt := 19) (pc' := 17) dX12_count_14 (by decide) rfl (fun _ => ?_) (fun hn => absurd hn g3)
    refine x_iload_n (pc' := 20) dX12_count_19 rfl rfl ?_
    refine x_iconst (pc' := 21) (x := 3) dX12_count_20 (by decide) rfl ?_
    refine xg_ite h (fun g4 h => ?_) (fun g4 h => ?_)
    · refine x_icmp_ge (tgt := 52) (pc' := 24) dX12_count_21 (by decide) rfl (fun _ => ?_) (fun hn => absurd g4 hn)
      refine x_iload_n (pc' := 53) dX12_count_52 rfl rfl ?_
      refine x_iconst (pc' := 54) (x := 3) dX12_count_53 (by decide) rfl ?_
      refine xg_ite h (fun g5 h => ?_) (fun g5 h => ?_)
      · refine x_icmp_ne (tgt := 64) (pc' := 57) dX12_count_54 (by decide) rfl (fun hn => absurd g5 hn) (fun _ => ?_)
        refine x_aload_n (pc' := 58) dX12_count_57 rfl rfl ?_
        refine xg_bI h (fun w7 hi7 hl7 r7 e6 h => ?_)
        refine x_callV (pc' := 61) (S := []) (As := []) (b' := (0, 0, 0)) dX12_count_58 l_X12_300 m_X12_open rfl rfl (show 90 < 122 by decide) rfl (Nat.le_of_ble_eq_true rfl) (Nat.le_of_ble_eq_true rfl) (Nat.le_of_ble_eq_true rfl) (Nat.le_of_ble_eq_true rfl) (r_X12_open _ _ _ _ e6) rfl ?_
        refine x_goto (tgt := 80) dX12_count_61 (by decide) ?_
        obtain rfl := Option.some.inj h
        exact x_iret dX12_count_80 rfl rfl (Nat.le_of_ble_eq_true rfl) rfl
      · refine x_icmp_ne (tgt := 64) (pc' := 57) dX12_count_54 (by decide) rfl (fun _ => ?_) (fun hn => absurd hn g5)
        refine x_iload_n (pc' := 65) dX12_count_64 rfl rfl ?_
        refine x_iconst (pc' := 66) (x := 4) dX12_count_65 (by decide) rfl ?_
        refine xg_ite h (fun g8 h => ?_) (fun g8 h => ?_)
        · refine x_icmp_ne (tgt := 76) (pc' := 69) dX12_count_66 (by decide) rfl (fun hn => absurd g8 hn) (fun _ => ?_)
          refine x_aload_n (pc' := 70) dX12_count_69 rfl rfl ?_
          refine x_geti (pc' := 73) dX12_count_70 f_X12_175 (by decide) rfl rfl rfl ?_
          refine x_goto (tgt := 80) dX12_count_73 (by decide) ?_
          obtain rfl := Option.some.inj h
          exact x_iret dX12_count_80 rfl rfl (Nat.le_of_ble_eq_true rfl) rfl
        · refine x_icmp_ne (tgt := 76) (pc' := 69) dX12_count_66 (by decide) rfl (fun _ => ?_) (fun hn => absurd hn g8)
          refine x_aload_n (pc' := 77) dX12_count_76 rfl rfl ?_
          refine x_geti (pc' := 80) dX12_count_77 f_X12_169 (by decide) rfl rfl rfl ?_
          obtain rfl := Option.some.inj h
          exact x_iret dX12_count_80 rfl rfl (Nat.le_of_ble_eq_true rfl) rfl
    · refine x_icmp_ge (tgt := 52) (pc' := 24) dX12_count_21 (by decide) rfl (fun hn => absurd hn g4) (fun _ => ?_)
      refine x_iload_n (pc' := 25) dX12_count_24 rfl rfl ?_
      refine xg_ite h (fun g9 h => ?_) (fun g9 h => ?_)
      · refine x_if_ne (tgt := 35) (pc' := 28) dX12_count_25 (by decide) rfl (fun hn => absurd g9 hn) (fun _ => ?_)
        refine x_aload_n (pc' := 29) dX12_count_28 rfl rfl ?_
        refine x_geti (pc' := 32) dX12_count_29 f_X12_140 (by decide) rfl rfl rfl ?_
        refine x_goto (tgt := 51) dX12_count_32 (by decide) ?_
        obtain rfl := Option.some.inj h
        exact x_iret dX12_count_51 rfl rfl (Nat.le_of_ble_eq_true rfl) rfl
      · refine x_if_ne (tgt := 35) (pc' := 28) dX12_count_25 (by decide) rfl (fun _ => ?_) (fun hn => absurd hn g9)
        refine x_iload_n (pc' := 36) dX12_count_35 rfl rfl ?_
        refine x_iconst (pc' := 37) (x := 1) dX12_count_36 (by decide) rfl ?_
        refine xg_ite h (fun g10 h => ?_) (fun g10 h => ?_)
        · refine x_icmp_ne (tgt := 47) (pc' := 40) dX12_count_37 (by decide) rfl (fun hn => absurd g10 hn) (fun _ => ?_)
          refine x_aload_n (pc' := 41) dX12_count_40 rfl rfl ?_
          refine x_geti (pc' := 44) dX12_count_41 f_X12_143 (by decide) rfl rfl rfl ?_
          refine x_goto (tgt := 51) dX12_count_44 (by decide) ?_
          obtain rfl := Option.some.inj h
          exact x_iret dX12_count_51 rfl rfl (Nat.le_of_ble_eq_true rfl) rfl
        · refine x_icmp_ne (tgt := 47) (pc' := 40) dX12_count_37 (by decide) rfl (fun _ => ?_) (fun hn => absurd hn g10)
          refine x_aload_n (pc' := 48) dX12_count_47 rfl rfl ?_
          refine x_geti (pc' := 51) dX12_count_48 f_X12_172 (by decide) rfl rfl rfl ?_
          obtain rfl := Option.some.inj h
          exact x_iret dX12_count_51 rfl rfl (Nat.le_of_ble_eq_true rfl) rfl
end
