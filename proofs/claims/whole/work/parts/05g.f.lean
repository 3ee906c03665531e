section
variable {z : xZ}
def F_X12_plans_168 (s1 : Int32) (s2 : Int32) (hi : Nat → Nat → Int32) (hl : Nat → Nat → Int64) (r : xRr) : Option (Int32 × xSt) := if xok s1 80 = true then some (((xu (xu hi 107 (Int32.toNatClampNeg s1) s2) 90 22 (((xu hi 107 (Int32.toNatClampNeg s1) s2) 90 22) + (1 : Int32))) 90 22), (xu (xu hi 107 (Int32.toNatClampNeg s1) s2) 90 22 (((xu hi 107 (Int32.toNatClampNeg s1) s2) 90 22) + (1 : Int32))), hl, r) else none
set_option maxRecDepth 20000 in
set_option maxHeartbeats 2000000 in
theorem r_X12_plans_168 (s1 : Int32) (s2 : Int32) (d1 : Option Value) (d2 : Option Value) (d3 : Option Value) (d4 : Option Value) (d5 : Option Value) (hi : Nat → Nat → Int32) (hl : Nat → Nat → Int64) (r : xRr) (o : Int32 × xSt) (h : F_X12_plans_168 s1 s2 hi hl r = some o) : xR (RX12, cX12_plans, 6, false, 1) (3, 0, 0) z 0 0 168 [some (.ref 90), d1, d2, d3, d4, d5] [.int s2, .int s1, .ref 107] (xhp hi hl r) (xoI o) := by
  refine xg_if h (fun g1 h => ?_)
  refine x_iast (pc' := 169) dX12_plans_168 (by decide) rfl (xok_in g1) rfl ?_
  refine x_aload_n (pc' := 170) dX12_plans_169 rfl rfl ?_
  refine x_dup (pc' := 171) dX12_plans_170 rfl rfl ?_
  refine x_geti (pc' := 174) dX12_plans_171 f_X12_172 (by decide) rfl rfl rfl ?_
  refine x_iconst (pc' := 175) (x := 1) dX12_plans_174 (by decide) rfl ?_
  refine x_iadd (pc' := 176) dX12_plans_175 rfl ?_
  refine x_puti (pc' := 179) dX12_plans_176 f_X12_172 (Or.inl rfl) (by decide) rfl rfl rfl ?_
  refine x_aload_n (pc' := 180) dX12_plans_179 rfl rfl ?_
  refine x_geti (pc' := 183) dX12_plans_180 f_X12_172 (by decide) rfl rfl rfl ?_
  obtain rfl := Option.some.inj h
  exact x_iret dX12_plans_183 rfl rfl (Nat.le_of_ble_eq_true rfl) rfl
def F_X12_plans_144 (v1 : Int32) (v5 : Int32) (s1 : Int32) (s2 : Int32) (hi : Nat → Nat → Int32) (hl : Nat → Nat → Int64) (r : xRr) : Option (Int32 × xSt) := if xok s1 80 = true then if (5 : Int32) ≤ v1 then F_X12_plans_168 (((5 : Int32) * ((xu hi 107 (Int32.toNatClampNeg s1) s2) 90 22)) + (4 : Int32)) (0 : Int32) (xu hi 107 (Int32.toNatClampNeg s1) s2) hl r else F_X12_plans_168 (((5 : Int32) * ((xu hi 107 (Int32.toNatClampNeg s1) s2) 90 22)) + (4 : Int32)) v5 (xu hi 107 (Int32.toNatClampNeg s1) s2) hl r else none
set_option maxRecDepth 20000 in
set_option maxHeartbeats 2000000 in
theorem r_X12_plans_144 (v1 : Int32) (v5 : Int32) (s1 : Int32) (s2 : Int32) (d2 : Option Value) (d3 : Option Value) (d4 : Option Value) (hi : Nat → Nat → Int32) (hl : Nat → Nat → Int64) (r : xRr) (o : Int32 × xSt) (h : F_X12_plans_144 v1 v5 s1 s2 hi hl r = some o) : xR (RX12, cX12_plans, 6, false, 1) (3, 0, 0) z 0 0 144 [some (.ref 90), some (.int v1), d2, d3, d4, some (.int v5)] [.int s2, .int s1, .ref 107] (xhp hi hl r) (xoI o) := by
  refine xg_if h (fun g1 h => ?_)
  refine x_iast (pc' := 145) dX12_plans_144 (by decide) rfl (xok_in g1) rfl ?_
  refine x_aload_n (pc' := 146) dX12_plans_145 rfl rfl ?_
  refine x_getr (pc' := 149) (t := 107) dX12_plans_146 f_X12_63 (by decide) rfl rfl rfl rfl ?_
  refine x_iconst (pc' := 150) (x := 5) dX12_plans_149 (by decide) rfl ?_
  refine x_aload_n (pc' := 151) dX12_plans_150 rfl rfl ?_
  refine x_geti (pc' := 154) dX12_plans_151 f_X12_172 (by decide) rfl rfl rfl ?_
  refine x_imul (pc' := 155) dX12_plans_154 rfl ?_
  refine x_iconst (pc' := 156) (x := 4) dX12_plans_155 (by decide) rfl ?_
  refine x_iadd (pc' := 157) dX12_plans_156 rfl ?_
  refine x_iload_n (pc' := 158) dX12_plans_157 rfl rfl ?_
  refine x_iconst (pc' := 159) (x := 5) dX12_plans_158 (by decide) rfl ?_
  refine xg_ite h (fun g2 h => ?_) (fun g2 h => ?_)
  · refine x_icmp_ge (tgt := 167) (pc' := 162) dX12_plans_159 (by decide) rfl (fun _ => ?_) (fun hn => absurd g2 hn)
    refine x_iconst (pc' := 168) (x := 0) dX12_plans_167 (by decide) rfl ?_
    exact r_X12_plans_168 _ _ _ _ _ _ _ _ _ _ _ h
  · refine x_icmp_ge (tgt := 167) (pc' := 162) dX12_plans_159 (by decide) rfl (fun hn => absurd hn g2) (fun _ => ?_)
    refine x_iload (pc' := 164) dX12_plans_162 rfl rfl ?_
    refine x_goto (tgt := 168) dX12_plans_164 (by decide) ?_
    exact r_X12_plans_168 _ _ _ _ _ _ _ _ _ _ _ h
def F_X12_plans_120 (v1 : Int32) (v4 : Int32) (v5 : Int32) (s1 : Int32) (s2 : Int32) (hi : Nat → Nat → Int32) (hl : Nat → Nat → Int64) (r : xRr) : Option (Int32 × xSt) := if xok s1 80 = true then if (5 : Int32) ≤ v1 then F_X12_plans_144 v1 v5 (((5 : Int32) * ((xu hi 107 (Int32.toNatClampNeg s1) s2) 90 22)) + (3 : Int32)) (0 : Int32) (xu hi 107 (Int32.toNatClampNeg s1) s2) hl r else F_X12_plans_144 v1 v5 (((5 : Int32) * ((xu hi 107 (Int32.toNatClampNeg s1) s2) 90 22)) + (3 : Int32)) v4 (xu hi 107 (Int32.toNatClampNeg s1) s2) hl r else none
set_option maxRecDepth 20000 in
set_option maxHeartbeats 2000000 in
theorem r_X12_plans_120 (v1 : Int32) (v4 : Int32) (v5 : Int32) (s1 : Int32) (s2 : Int32) (d2 : Option Value) (d3 : Option Value) (hi : Nat → Nat → Int32) (hl : Nat → Nat → Int64) (r : xRr) (o : Int32 × xSt) (h : F_X12_plans_120 v1 v4 v5 s1 s2 hi hl r = some o) : xR (RX12, cX12_plans, 6, false, 1) (3, 0, 0) z 0 0 120 [some (.ref 90), some (.int v1), d2, d3, some (.int v4), some (.int v5)] [.int s2, .int s1, .ref 107] (xhp hi hl r) (xoI o) := by
  refine xg_if h (fun g1 h => ?_)
  refine x_iast (pc' := 121) dX12_plans_120 (by decide) rfl (xok_in g1) rfl ?_
  refine x_aload_n (pc' := 122) dX12_plans_121 rfl rfl ?_
  refine x_getr (pc' := 125) (t := 107) dX12_plans_122 f_X12_63 (by decide) rfl rfl rfl rfl ?_
  refine x_iconst (pc' := 126) (x := 5) dX12_plans_125 (by decide) rfl ?_
  refine x_aload_n (pc' := 127) dX12_plans_126 rfl rfl ?_
  refine x_geti (pc' := 130) dX12_plans_127 f_X12_172 (by decide) rfl rfl rfl ?_
  refine x_imul (pc' := 131) dX12_plans_130 rfl ?_
  refine x_iconst (pc' := 132) (x := 3) dX12_plans_131 (by decide) rfl ?_
  refine x_iadd (pc' := 133) dX12_plans_132 rfl ?_
  refine x_iload_n (pc' := 134) dX12_plans_133 rfl rfl ?_
  refine x_iconst (pc' := 135) (x := 5) dX12_plans_134 (by decide) rfl ?_
  refine xg_ite h (fun g2 h => ?_) (fun g2 h => ?_)
  · refine x_icmp_ge (tgt := 143) (pc' := 138) dX12_plans_135 (by decide) rfl (fun _ => ?_) (fun hn => absurd g2 hn)
    refine x_iconst (pc' := 144) (x := 0) dX12_plans_143 (by decide) rfl ?_
    exact r_X12_plans_144 _ _ _ _ _ _ _ _ _ _ _ h
  · refine x_icmp_ge (tgt := 143) (pc' := 138) dX12_plans_135 (by decide) rfl (fun hn => absurd hn g2) (fun _ => ?_)
    refine x_iload (pc' := 140) dX12_plans_138 rfl rfl ?_
    refine x_goto (tgt := 144) dX12_plans_140 (by decide) ?_
    exact r_X12_plans_144 _ _ _ _ _ _ _ _ _ _ _ h
def F_X12_plans_97 (v1 : Int32) (v3 : Int32) (v4 : Int32) (v5 : Int32) (s1 : Int32) (s2 : Int32) (hi : Nat → Nat → Int32) (hl : Nat → Nat → Int64) (r : xRr) : Option (Int32 × xSt) := if xok s1 80 = true then if (5 : Int32) ≤ v1 then F_X12_plans_120 v1 v4 v5 (((5 : Int32) * ((xu hi 107 (Int32.toNatClampNeg s1) s2) 90 22)) + (2 : Int32)) (0 : Int32) (xu hi 107 (Int32.toNatClampNeg s1) s2) hl r else F_X12_plans_120 v1 v4 v5 (((5 : Int32) * ((xu hi 107 (Int32.toNatClampNeg s1) s2) 90 22)) + (2 : Int32)) v3 (xu hi 107 (Int32.toNatClampNeg s1) s2) hl r else none
set_option maxRecDepth 20000 in
set_option maxHeartbeats 2000000 in
theorem r_X12_plans_97 (v1 : Int32) (v3 : Int32) (v4 : Int32) (v5 : Int32) (s1 : Int32) (s2 : Int32) (d2 : Option Value) (hi : Nat → Nat → Int32) (hl : Nat → Nat → Int64) (r : xRr) (o : Int32 × xSt) (h : F_X12_plans_97 v1 v3 v4 v5 s1 s2 hi hl r = some o) : xR (RX12, cX12_plans, 6, false, 1) (3, 0, 0) z 0 0 97 [some (.ref 90), some (.int v1), d2, some (.int v3), some (.int v4), some (.int v5)] [.int s2, .int s1, .ref 107] (xhp hi hl r) (xoI o) := by
  refine xg_if h (fun g1 h => ?_)
  refine x_iast (pc' := 98) dX12_plans_97 (by decide) rfl (xok_in g1) rfl ?_
  refine x_aload_n (pc' := 99) dX12_plans_98 rfl rfl ?_
  refine x_getr (pc' := 102) (t := 107) dX12_plans_99 f_X12_63 (by decide) rfl rfl rfl rfl ?_
  refine x_iconst (pc' := 103) (x := 5) dX12_plans_102 (by decide) rfl ?_
  refine x_aload_n (pc' := 104) dX12_plans_103 rfl rfl ?_
  refine x_geti (pc' := 107) dX12_plans_104 f_X12_172 (by decide) rfl rfl rfl ?_
  refine x_imul (pc' := 108) dX12_plans_107 rfl ?_
  refine x_iconst (pc' := 109) (x := 2) dX12_plans_108 (by decide) rfl ?_
  refine x_iadd (pc' := 110) dX12_plans_109 rfl ?_
  refine x_iload_n (pc' := 111) dX12_plans_110 rfl rfl ?_
  refine x_iconst (pc' := 112) (x := 5) dX12_plans_111 (by decide) rfl ?_
  refine xg_ite h (fun g2 h => ?_) (fun g2 h => ?_)
  · refine x_icmp_ge (tgt := 119) (pc' := 115) dX12_plans_112 (by decide) rfl (fun _ => ?_) (fun hn => absurd g2 hn)
    refine x_iconst (pc' := 120) (x := 0) dX12_plans_119 (by decide) rfl ?_
    exact r_X12_plans_120 _ _ _ _ _ _ _ _ _ _ _ h
  · refine x_icmp_ge (tgt := 119) (pc' := 115) dX12_plans_112 (by decide) rfl (fun hn => absurd hn g2) (fun _ => ?_)
    refine x_iload_n (pc' := 116) dX12_plans_115 rfl rfl ?_
    refine x_goto (tgt := 120) dX12_plans_116 (by decide) ?_
    exact r_X12_plans_120 _ _ _ _ _ _ _ _ _ _ _ h
def F_X12_plans_62 (v1 : Int32) (v2 : Int32) (v3 : Int32) (v4 : Int32) (v5 : Int32) (hi : Nat → Nat → Int32) (hl : Nat → Nat → Int64) (r : xRr) : Option (Int32 × xSt) := if xok ((5 : Int32) * (hi 90 22)) 80 = true then if (6 : Int32) ≤ v1 then F_X12_plans_97 v1 v3 v4 v5 (((5 : Int32) * ((xu hi 107 (Int32.toNatClampNeg ((5 : Int32) * (hi 90 22))) v1) 90 22)) + (1 : Int32)) (0 : Int32) (xu hi 107 (Int32.toNatClampNeg ((5 : Int32) * (hi 90 22))) v1) hl r else F_X12_plans_97 v1 v3 v4 v5 (((5 : Int32) * ((xu hi 107 (Int32.toNatClampNeg ((5 : Int32) * (hi 90 22))) v1) 90 22)) + (1 : Int32)) v2 (xu hi 107 (Int32.toNatClampNeg ((5 : Int32) * (hi 90 22))) v1) hl r else none
set_option maxRecDepth 20000 in
set_option maxHeartbeats 2000000 in
theorem r_X12_plans_62 (v1 : Int32) (v2 : Int32) (v3 : Int32) (v4 : Int32) (v5 : Int32) (hi : Nat → Nat → Int32) (hl : Nat → Nat → Int64) (r : xRr) (o : Int32 × xSt) (h : F_X12_plans_62 v1 v2 v3 v4 v5 hi hl r = some o) : xR (RX12, cX12_plans, 6, false, 1) (3, 0, 0) z 0 0 62 [some (.ref 90), some (.int v1), some (.int v2), some (.int v3), some (.int v4), some (.int v5)] [] (xhp hi hl r) (xoI o) := by
  refine x_aload_n (pc' := 63) dX12_plans_62 rfl rfl ?_
  refine x_getr (pc' := 66) (t := 107) dX12_plans_63 f_X12_63 (by decide) rfl rfl rfl rfl ?_
  refine x_iconst (pc' := 67) (x := 5) dX12_plans_66 (by decide) rfl ?_
  refine x_aload_n (pc' := 68) dX12_plans_67 rfl rfl ?_
  refine x_geti (pc' := 71) dX12_plans_68 f_X12_172 (by decide) rfl rfl rfl ?_
  refine x_imul (pc' := 72) dX12_plans_71 rfl ?_
  refine x_iload_n (pc' := 73) dX12_plans_72 rfl rfl ?_
  refine xg_if h (fun g1 h => ?_)
  refine x_iast (pc' := 74) dX12_plans_73 (by decide) rfl (xok_in g1) rfl ?_
  refine x_aload_n (pc' := 75) dX12_plans_74 rfl rfl ?_
  refine x_getr (pc' := 78) (t := 107) dX12_plans_75 f_X12_63 (by decide) rfl rfl rfl rfl ?_
  refine x_iconst (pc' := 79) (x := 5) dX12_plans_78 (by decide) rfl ?_
  refine x_aload_n (pc' := 80) dX12_plans_79 rfl rfl ?_
  refine x_geti (pc' := 83) dX12_plans_80 f_X12_172 (by decide) rfl rfl rfl ?_
  refine x_imul (pc' := 84) dX12_plans_83 rfl ?_
  refine x_iconst (pc' := 85) (x := 1) dX12_plans_84 (by decide) rfl ?_
  refine x_iadd (pc' := 86) dX12_plans_85 rfl ?_
  refine x_iload_n (pc' := 87) dX12_plans_86 rfl rfl ?_
  refine x_bipush (pc' := 89) (x := 6) dX12_plans_87 (by decide) rfl ?_
  refine xg_ite h (fun g2 h => ?_) (fun g2 h => ?_)
  · refine x_icmp_ge (tgt := 96) (pc' := 92) dX12_plans_89 (by decide) rfl (fun _ => ?_) (fun hn => absurd g2 hn)
    refine x_iconst (pc' := 97) (x := 0) dX12_plans_96 (by decide) rfl ?_
    exact r_X12_plans_97 _ _ _ _ _ _ _ _ _ _ _ h
  · refine x_icmp_ge (tgt := 96) (pc' := 92) dX12_plans_89 (by decide) rfl (fun hn => absurd hn g2) (fun _ => ?_)
    refine x_iload_n (pc' := 93) dX12_plans_92 rfl rfl ?_
    refine x_goto (tgt := 97) dX12_plans_93 (by decide) ?_
    exact r_X12_plans_97 _ _ _ _ _ _ _ _ _ _ _ h
def F_X12_plans_37 (v1 : Int32) (v2 : Int32) (v3 : Int32) (v4 : Int32) (v5 : Int32) (hi : Nat → Nat → Int32) (hl : Nat → Nat → Int64) (r : xRr) : Option (Int32 × xSt) := if (hi 90 22) = (16 : Int32) then some (((-3) : Int32), hi, hl, r) else if v1 = (5 : Int32) then xbI (F_X12_open hi hl r) (fun w4 hi4 hl4 r4 => if w4 = (3 : Int32) then some (((-3) : Int32), hi4, hl4, r4) else F_X12_plans_62 v1 v2 v3 v4 v5 hi4 hl4 r4) else F_X12_plans_62 v1 v2 v3 v4 v5 hi hl r
set_option maxRecDepth 20000 in
set_option maxHeartbeats 2000000 in
theorem r_X12_plans_37 (v1 : Int32) (v2 : Int32) (v3 : Int32) (v4 : Int32) (v5 : Int32) (hi : Nat → Nat → Int32) (hl : Nat → Nat → Int64) (r : xRr) (o : Int32 × xSt) (h : F_X12_plans_37 v1 v2 v3 v4 v5 hi hl r = some o) : xR (RX12, cX12_plans, 6, false, 1) (3, 0, 0) z 0 0 37 [some (.ref 90), some (.int v1), some (.int v2), some (.int v3), some (.int v4), some (.int v5)] [] (xhp hi hl r) (xoI o) := by
  refine x_aload_n (pc' := 38) dX12_plans_37 rfl rfl ?_
  refine x_geti (pc' := 41) dX12_plans_38 f_X12_172 (by decide) rfl rfl rfl ?_
  refine x_bipush (pc' := 43) (x := 16) dX12_plans_41 (by decide) rfl ?_
  refine xg_ite h (fun g1 h => ?_) (fun g1 h => ?_)
  · refine x_icmp_eq (tgt := 59) (pc' := 46) dX12_plans_43 (by decide) rfl (fun _ => ?_) (fun hn => absurd g1 hn)
    refine x_bipush (pc' := 61) (x := (-3)) dX12_plans_59 (by decide) rfl ?_
    obtain rfl := Option.some.inj h
    exact x_iret dX12_plans_61 rfl rfl (Nat.le_of_ble_eq_true rfl) rfl
  · refine x_icmp_eq (tgt := 59) (pc' := 46) dX12_plans_43 (by decide) rfl (fun hn => absurd hn g1) (fun _ => ?_)
    refine x_iload_n (pc' := 47) dX12_plans_46 rfl rfl ?_
    refine x_iconst (pc' := 48) (x := 5) dX12_plans_47 (by decide) rfl ?_
    refine xg_ite h (fun g2 h => ?_) (fun g2 h => ?_)
    · refine x_icmp_ne (tgt := 62) (pc' := 51) dX12_plans_48 (by decide) rfl (fun hn => absurd g2 hn) (fun _ => ?_)
      refine x_aload_n (pc' := 52) dX12_plans_51 rfl rfl ?_
      refine xg_bI h (fun w4 hi4 hl4 r4 e3 h => ?_)
      refine x_callV (pc' := 55) (S := []) (As := []) (b' := (0, 0, 0)) dX12_plans_52 l_X12_300 m_X12_open rfl rfl (show 90 < 122 by decide) rfl (Nat.le_of_ble_eq_true rfl) (Nat.le_of_ble_eq_true rfl) (Nat.le_of_ble_eq_true rfl) (Nat.le_of_ble_eq_true rfl) (r_X12_open _ _ _ _ e3) rfl ?_
      refine x_iconst (pc' := 56) (x := 3) dX12_plans_55 (by decide) rfl ?_
      refine xg_ite h (fun g5 h => ?_) (fun g5 h => ?_)
      · refine x_icmp_ne (tgt := 62) (pc' := 59) dX12_plans_56 (by decide) rfl (fun hn => absurd g5 hn) (fun _ => ?_)
        refine x_bipush (pc' := 61) (x := (-3)) dX12_plans_59 (by decide) rfl ?_
        obtain rfl := Option.some.inj h
        exact x_iret dX12_plans_61 rfl rfl (Nat.le_of_ble_eq_true rfl) rfl
      · refine x_icmp_ne (tgt := 62) (pc' := 59) dX12_plans_56 (by decide) rfl (fun _ => ?_) (fun hn => absurd hn g5)
        exact r_X12_plans_62 _ _ _ _ _ _ _ _ _ h
    · refine x_icmp_ne (tgt := 62) (pc' := 51) dX12_plans_48 (by decide) rfl (fun _ => ?_) (fun hn => absurd hn g2)
      exact r_X12_plans_62 _ _ _ _ _ _ _ _ _ h
def F_X12_plans (v1 : Int32) (v2 : Int32) (v3 : Int32) (v4 : Int32) (v5 : Int32) (hi : Nat → Nat → Int32) (hl : Nat → Nat → Int64) (r : xRr) : Option (Int32 × xSt) := xbI (F_X12_isLine v1 v2 v3 v4 v5 (xu hi 90 0 (0 : Int32)) hl r) (fun w2 hi2 hl2 r2 => if w2 = 0 then some (((-1) : Int32), hi2, hl2, r2) else if v1 = (6 : Int32) then xbI (F_X12_open hi2 hl2 r2) (fun w6 hi6 hl6 r6 => if w6 = 0 then some (((-2) : Int32), hi6, hl6, r6) else F_X12_plans_37 v1 v2 v3 v4 v5 hi6 hl6 r6) else F_X12_plans_37 v1 v2 v3 v4 v5 hi2 hl2 r2)
set_option maxRecDepth 20000 in
set_option maxHeartbeats 2000000 in
theorem r_X12_plans (v1 : Int32) (v2 : Int32) (v3 : Int32) (v4 : Int32) (v5 : Int32) (hi : Nat → Nat → Int32) (hl : Nat → Nat → Int64) (r : xRr) (o : Int32 × xSt) (h : F_X12_plans v1 v2 v3 v4 v5 hi hl r = some o) : xM yX12_plans cX12_plans 6 1 (3, 0, 0) z [.ref 90, .int v1, .int v2, .int v3, .int v4, .int v5] (xhp hi hl r) (xoI o) := by
  refine x_meth2 (C := RX12) (ini := false) (L := [some (.ref 90), some (.int v1), some (.int v2), some (.int v3), some (.int v4), some (.int v5)]) rfl (by decide) (fun h9 => by cases h9) (by decide) (Nat.le_of_ble_eq_true rfl) rfl ?_
  refine x_aload_n (pc' := 1) dX12_plans_0 rfl rfl ?_
  refine x_iconst (pc' := 2) (x := 0) dX12_plans_1 (by decide) rfl ?_
  refine x_puti (pc' := 5) dX12_plans_2 f_X12_109 (Or.inl rfl) (by decide) rfl rfl rfl ?_
  refine x_aload_n (pc' := 6) dX12_plans_5 rfl rfl ?_
  refine x_iload_n (pc' := 7) dX12_plans_6 rfl rfl ?_
  refine x_iload_n (pc' := 8) dX12_plans_7 rfl rfl ?_
  refine x_iload_n (pc' := 9) dX12_plans_8 rfl rfl ?_
  refine x_iload (pc' := 11) dX12_plans_9 rfl rfl ?_
  refine x_iload (pc' := 13) dX12_plans_11 rfl rfl ?_
  refine xg_bI h (fun w2 hi2 hl2 r2 e1 h => ?_)
  refine x_callV (pc' := 16) (S := []) (As := [.int v1, .int v2, .int v3, .int v4, .int v5]) (b' := (2, 0, 0)) dX12_plans_13 l_X12_296 m_X12_isLine rfl rfl (show 90 < 122 by decide) rfl (Nat.le_of_ble_eq_true rfl) (Nat.le_of_ble_eq_true rfl) (Nat.le_of_ble_eq_true rfl) (Nat.le_of_ble_eq_true rfl) (r_X12_isLine _ _ _ _ _ _ _ _ _ e1) rfl ?_
  refine xg_ite h (fun g3 h => ?_) (fun g3 h => ?_)
  · refine x_if_ne (tgt := 21) (pc' := 19) dX12_plans_16 (by decide) rfl (fun hn => absurd g3 hn) (fun _ => ?_)
    refine x_iconst (pc' := 20) (x := (-1)) dX12_plans_19 (by decide) rfl ?_
    obtain rfl := Option.some.inj h
    exact x_iret dX12_plans_20 rfl rfl (Nat.le_of_ble_eq_true rfl) rfl
  · refine x_if_ne (tgt := 21) (pc' := 19) dX12_plans_16 (by decide) rfl (fun _ => ?_) (fun hn => absurd hn g3)
    refine x_iload_n (pc' := 22) dX12_plans_21 rfl rfl ?_
    refine x_bipush (pc' := 24) (x := 6) dX12_plans_22 (by decide) rfl ?_
    refine xg_ite h (fun g4 h => ?_) (fun g4 h => ?_)
    · refine x_icmp_ne (tgt := 37) (pc' := 27) dX12_plans_24 (by decide) rfl (fun hn => absurd g4 hn) (fun _ => ?_)
      refine x_aload_n (pc' := 28) dX12_plans_27 rfl rfl ?_
      refine xg_bI h (fun w6 hi6 hl6 r6 e5 h => ?_)
      refine x_callV (pc' := 31) (S := []) (As := []) (b' := (0, 0, 0)) dX12_plans_28 l_X12_300 m_X12_open rfl rfl (show 90 < 122 by decide) rfl (Nat.le_of_ble_eq_true rfl) (Nat.le_of_ble_eq_true rfl) (Nat.le_of_ble_eq_true rfl) (Nat.le_of_ble_eq_true rfl) (r_X12_open _ _ _ _ e5) rfl ?_
      refine xg_ite h (fun g7 h => ?_) (fun g7 h => ?_)
      · refine x_if_ne (tgt := 37) (pc' := 34) dX12_plans_31 (by decide) rfl (fun hn => absurd g7 hn) (fun _ => ?_)
        refine x_bipush (pc' := 36) (x := (-2)) dX12_plans_34 (by decide) rfl ?_
        obtain rfl := Option.some.inj h
        exact x_iret dX12_plans_36 rfl rfl (Nat.le_of_ble_eq_true rfl) rfl
      · refine x_if_ne (tgt := 37) (pc' := 34) dX12_plans_31 (by decide) rfl (fun _ => ?_) (fun hn => absurd hn g7)
        exact r_X12_plans_37 _ _ _ _ _ _ _ _ _ h
    · refine x_icmp_ne (tgt := 37) (pc' := 27) dX12_plans_24 (by decide) rfl (fun _ => ?_) (fun hn => absurd hn g4)
      exact r_X12_plans_37 _ _ _ _ _ _ _ _ _ h
def F_X12_drops (hi : Nat → Nat → Int32) (hl : Nat → Nat → Int64) (r : xRr) : Option (Int32 × xSt) := if ((xu hi 90 0 (0 : Int32)) 90 22) = 0 then some (((-2) : Int32), (xu hi 90 0 (0 : Int32)), hl, r) else some (((xu (xu hi 90 0 (0 : Int32)) 90 22 (((xu hi 90 0 (0 : Int32)) 90 22) - (1 : Int32))) 90 22), (xu (xu hi 90 0 (0 : Int32)) 90 22 (((xu hi 90 0 (0 : Int32)) 90 22) - (1 : Int32))), hl, r)
set_option maxRecDepth 20000 in
set_option maxHeartbeats 2000000 in
theorem r_X12_drops (hi : Nat → Nat → Int32) (hl : Nat → Nat → Int64) (r : xRr) (o : Int32 × xSt) (h : F_X12_drops hi hl r = some o) : xM yX12_drops cX12_drops 1 1 (0, 0, 0) z [.ref 90] (xhp hi hl r) (xoI o) := by
  refine x_meth2 (C := RX12) (ini := false) (L := [some (.ref 90)]) rfl (by decide) (fun h9 => by cases h9) (by decide) (Nat.le_of_ble_eq_true rfl) rfl ?_
  refine x_aload_n (pc' := 1) dX12_drops_0 rfl rfl ?_
  refine x_iconst (pc' := 2) (x := 0) dX12_drops_1 (by decide) rfl ?_
  refine x_puti (pc' := 5) dX12_drops_2 f_X12_109 (Or.inl rfl) (by decide) rfl rfl rfl ?_
  refine x_aload_n (pc' := 6) dX12_drops_5 rfl rfl ?_
  refine x_geti (pc' := 9) dX12_drops_6 f_X12_172 (by decide) rfl rfl rfl ?_
  refine xg_ite h (fun g1 h => ?_) (fun g1 h => ?_)
  · refine x_if_ne (tgt := 15) (pc' := 12) dX12_drops_9 (by decide) rfl (fun hn => absurd g1 hn) (fun _ => ?_)
    refine x_bipush (pc' := 14) (x := (-2)) dX12_drops_12 (by decide) rfl ?_
    obtain rfl := Option.some.inj h
    exact x_iret dX12_drops_14 rfl rfl (Nat.le_of_ble_eq_true rfl) rfl
  · refine x_if_ne (tgt := 15) (pc' := 12) dX12_drops_9 (by decide) rfl (fun _ => ?_) (fun hn => absurd hn g1)
    refine x_aload_n (pc' := 16) dX12_drops_15 rfl rfl ?_
    refine x_dup (pc' := 17) dX12_drops_16 rfl rfl ?_
    refine x_geti (pc' := 20) dX12_drops_17 f_X12_172 (by decide) rfl rfl rfl ?_
    refine x_iconst (pc' := 21) (x := 1) dX12_drops_20 (by decide) rfl ?_
    refine x_isub (pc' := 22) dX12_drops_21 rfl ?_
    refine x_puti (pc' := 25) dX12_drops_22 f_X12_172 (Or.inl rfl) (by decide) rfl rfl rfl ?_
    refine x_aload_n (pc' := 26) dX12_drops_25 rfl rfl ?_
    refine x_geti (pc' := 29) dX12_drops_26 f_X12_172 (by decide) rfl rfl rfl ?_
    obtain rfl := Option.some.inj h
    exact x_iret dX12_drops_29 rfl rfl (Nat.le_of_ble_eq_true rfl) rfl
def F_X12_modes (v1 : Int32) (v2 : Int32) (hi : Nat → Nat → Int32) (hl : Nat → Nat → Int64) (r : xRr) : Option (Int32 × xSt) := xbP (F_X12_in (Int32.toInt64 v1) (0 : Int64) (6 : Int64)) (fun w2 => if w2 = 0 then some (((-1) : Int32), (xu hi 90 0 (0 : Int32)), hl, r) else xbP (F_X12_in (Int32.toInt64 v2) (0 : Int64) (2 : Int64)) (fun w5 => if w5 = 0 then some (((-1) : Int32), (xu hi 90 0 (0 : Int32)), hl, r) else if xok v1 7 = true then some (((xu hi 90 0 (0 : Int32)) 108 (Int32.toNatClampNeg v1)), (xu (xu hi 90 0 (0 : Int32)) 108 (Int32.toNatClampNeg v1) v2), hl, r) else none))
set_option maxRecDepth 20000 in
set_option maxHeartbeats 2000000 in
theorem r_X12_modes (v1 : Int32) (v2 : Int32) (hi : Nat → Nat → Int32) (hl : Nat → Nat → Int64) (r : xRr) (o : Int32 × xSt) (h : F_X12_modes v1 v2 hi hl r = some o) : xM yX12_modes cX12_modes 4 1 (1, 0, 0) z [.ref 90, .int v1, .int v2] (xhp hi hl r) (xoI o) := by
  refine x_meth2 (C := RX12) (ini := false) (L := [some (.ref 90), some (.int v1), some (.int v2), none]) rfl (by decide) (fun h9 => by cases h9) (by decide) (Nat.le_of_ble_eq_true rfl) rfl ?_
  refine x_aload_n (pc' := 1) dX12_modes_0 rfl rfl ?_
  refine x_iconst (pc' := 2) (x := 0) dX12_modes_1 (by decide) rfl ?_
  refine x_puti (pc' := 5) dX12_modes_2 f_X12_109 (Or.inl rfl) (by decide) rfl rfl rfl ?_
  refine x_iload_n (pc' := 6) dX12_modes_5 rfl rfl ?_
  refine x_i2l (pc' := 7) dX12_modes_6 rfl ?_
  refine x_lconst (pc' := 8) (x := 0) dX12_modes_7 (by decide) rfl ?_
  refine x_ldc2 (pc' := 11) dX12_modes_8 k_X12_303 rfl ?_
  refine xg_bP h (fun w2 e1 h => ?_)
  refine x_callS (pc' := 14) (S := []) (As := [.long (Int32.toInt64 v1), .long (0 : Int64), .long (6 : Int64)]) (b' := (0, 0, 0)) dX12_modes_11 l_X12_118 m_X12_in rfl rfl (Nat.le_of_ble_eq_true rfl) (Nat.le_of_ble_eq_true rfl) (Nat.le_of_ble_eq_true rfl) (Nat.le_of_ble_eq_true rfl) (r_X12_in _ _ _ _ _ e1) rfl ?_
  refine xg_ite h (fun g3 h => ?_) (fun g3 h => ?_)
  · refine x_if_eq (tgt := 29) (pc' := 17) dX12_modes_14 (by decide) rfl (fun _ => ?_) (fun hn => absurd g3 hn)
    refine x_iconst (pc' := 30) (x := (-1)) dX12_modes_29 (by decide) rfl ?_
    obtain rfl := Option.some.inj h
    exact x_iret dX12_modes_30 rfl rfl (Nat.le_of_ble_eq_true rfl) rfl
  · refine x_if_eq (tgt := 29) (pc' := 17) dX12_modes_14 (by decide) rfl (fun hn => absurd hn g3) (fun _ => ?_)
    refine x_iload_n (pc' := 18) dX12_modes_17 rfl rfl ?_
    refine x_i2l (pc' := 19) dX12_modes_18 rfl ?_
    refine x_lconst (pc' := 20) (x := 0) dX12_modes_19 (by decide) rfl ?_
    refine x_ldc2 (pc' := 23) dX12_modes_20 k_X12_112 rfl ?_
    refine xg_bP h (fun w5 e4 h => ?_)
    refine x_callS (pc' := 26) (S := []) (As := [.long (Int32.toInt64 v2), .long (0 : Int64), .long (2 : Int64)]) (b' := (0, 0, 0)) dX12_modes_23 l_X12_118 m_X12_in rfl rfl (Nat.le_of_ble_eq_true rfl) (Nat.le_of_ble_eq_true rfl) (Nat.le_of_ble_eq_true rfl) (Nat.le_of_ble_eq_true rfl) (r_X12_in _ _ _ _ _ e4) rfl ?_
    refine xg_ite h (fun g6 h => ?_) (fun g6 h => ?_)
    · refine x_if_ne (tgt := 31) (pc' := 29) dX12_modes_26 (by decide) rfl (fun hn => absurd g6 hn) (fun _ => ?_)
      refine x_iconst (pc' := 30) (x := (-1)) dX12_modes_29 (by decide) rfl ?_
      obtain rfl := Option.some.inj h
      exact x_iret dX12_modes_30 rfl rfl (Nat.le_of_ble_eq_true rfl) rfl
    · refine x_if_ne (tgt := 31) (pc' := 29) dX12_modes_26 (by decide) rfl (fun _ => ?_) (fun hn => absurd hn g6)
      refine x_aload_n (pc' := 32) dX12_modes_31 rfl rfl ?_
      refine x_getr (pc' := 35) (t := 108) dX12_modes_32 f_X12_66 (by decide) rfl rfl rfl rfl ?_
      refine x_iload_n (pc' := 36) dX12_modes_35 rfl rfl ?_
      refine xg_if h (fun g7 h => ?_)
      refine x_iald (pc' := 37) dX12_modes_36 (by decide) rfl (xok_in g7) rfl ?_
      refine x_istore_n (pc' := 38) (L' := [some (.ref 90), some (.int v1), some (.int v2), some (.int ((xu hi 90 0 (0 : Int32)) 108 (Int32.toNatClampNeg v1)))]) dX12_modes_37 (Nat.le_of_ble_eq_true rfl) rfl rfl ?_
      refine x_aload_n (pc' := 39) dX12_modes_38 rfl rfl ?_
      refine x_getr (pc' := 42) (t := 108) dX12_modes_39 f_X12_66 (by decide) rfl rfl rfl rfl ?_
      refine x_iload_n (pc' := 43) dX12_modes_42 rfl rfl ?_
      refine x_iload_n (pc' := 44) dX12_modes_43 rfl rfl ?_
      refine x_iast (pc' := 45) dX12_modes_44 (by decide) rfl (xok_in g7) rfl ?_
      refine x_iload_n (pc' := 46) dX12_modes_45 rfl rfl ?_
      obtain rfl := Option.some.inj h
      exact x_iret dX12_modes_46 rfl rfl (Nat.le_of_ble_eq_true rfl) rfl
def F_X12_behind_45 (K6 : Int32 → Int32 → (Nat → Nat → Int32) → (Nat → Nat → Int64) → xRr → Option (Int32 × xSt)) (v3 : Int32) (s0 : Int32) (s1 : Int32) (hi : Nat → Nat → Int32) (hl : Nat → Nat → Int64) (r : xRr) : Option (Int32 × xSt) := K6 (s0 + s1) (v3 + (1)) hi hl r
set_option maxRecDepth 20000 in
set_option maxHeartbeats 2000000 in
theorem r_X12_behind_45 (K6 : Int32 → Int32 → (Nat → Nat → Int32) → (Nat → Nat → Int64) → xRr → Option (Int32 × xSt)) (hK6 : ∀ (v2 : Int32) (v3 : Int32) (d1 : Option Value) (hi : Nat → Nat → Int32) (hl : Nat → Nat → Int64) (r : xRr) (o : Int32 × xSt), K6 v2 v3 hi hl r = some o → xR (RX12, cX12_behind, 4, false, 1) (0, 0, 0) z 0 0 6 [some (.ref 90), d1, some (.int v2), some (.int v3)] [] (xhp hi hl r) (xoI o)) (v3 : Int32) (s0 : Int32) (s1 : Int32) (d1 : Option Value) (d2 : Option Value) (hi : Nat → Nat → Int32) (hl : Nat → Nat → Int64) (r : xRr) (o : Int32 × xSt) (h : F_X12_behind_45 K6 v3 s0 s1 hi hl r = some o) : xR (RX12, cX12_behind, 4, false, 1) (0, 0, 0) z 0 0 45 [some (.ref 90), d1, d2, some (.int v3)] [.int s1, .int s0] (xhp hi hl r) (xoI o) := by
  refine x_iadd (pc' := 46) dX12_behind_45 rfl ?_
  refine x_istore_n (pc' := 47) (L' := [some (.ref 90), (xcl d1), some (.int (s0 + s1)), some (.int v3)]) dX12_behind_46 (Nat.le_of_ble_eq_true rfl) rfl rfl ?_
  refine x_iinc (pc' := 50) (v := (v3 + (1))) (L' := [some (.ref 90), (xcl d1), some (.int (s0 + s1)), some (.int (v3 + (1)))]) dX12_behind_47 rfl rfl (Nat.le_of_ble_eq_true rfl) rfl rfl ?_
  refine x_goto (tgt := 6) dX12_behind_50 (by decide) ?_
  exact hK6 _ _ _ _ _ _ _ h
def F_X12_behind_6 : Nat → Int32 → Int32 → (Nat → Nat → Int32) → (Nat → Nat → Int64) → xRr → Option (Int32 × xSt)
  | 0, _, _, _, _, _ => none
  | n + 1, v2, v3, hi, hl, r => if v2 ≤ 0 then some (v3, hi, hl, r) else if xok ((5 : Int32) * v3) 80 = true then if (hi 107 (Int32.toNatClampNeg ((5 : Int32) * v3))) = (5 : Int32) then F_X12_behind_45 (F_X12_behind_6 n) v3 v2 (1 : Int32) hi hl r else if (hi 107 (Int32.toNatClampNeg ((5 : Int32) * v3))) = (6 : Int32) then F_X12_behind_45 (F_X12_behind_6 n) v3 v2 ((-1) : Int32) hi hl r else F_X12_behind_45 (F_X12_behind_6 n) v3 v2 (0 : Int32) hi hl r else none
set_option maxRecDepth 20000 in
set_option maxHeartbeats 2000000 in
theorem r_X12_behind_6 : ∀ (n : Nat) (v2 : Int32) (v3 : Int32) (d1 : Option Value) (hi : Nat → Nat → Int32) (hl : Nat → Nat → Int64) (r : xRr) (o : Int32 × xSt), F_X12_behind_6 n v2 v3 hi hl r = some o → xR (RX12, cX12_behind, 4, false, 1) (0, 0, 0) z 0 0 6 [some (.ref 90), d1, some (.int v2), some (.int v3)] [] (xhp hi hl r) (xoI o) := by
  intro n
  induction n with
  | zero =>
    intro v2 v3 d1 hi hl r o h
    have h : none = some o := h
    cases h
  | succ n ih =>
    intro v2 v3 d1 hi hl r o h
    refine x_iload_n (pc' := 7) dX12_behind_6 rfl rfl ?_
    refine xg_ite h (fun g1 h => ?_) (fun g1 h => ?_)
    · refine x_if_le (tgt := 53) (pc' := 10) dX12_behind_7 (by decide) rfl (fun _ => ?_) (fun hn => absurd g1 hn)
      refine x_iload_n (pc' := 54) dX12_behind_53 rfl rfl ?_
      obtain rfl := Option.some.inj h
      exact x_iret dX12_behind_54 rfl rfl (Nat.le_of_ble_eq_true rfl) rfl
    · refine x_if_le (tgt := 53) (pc' := 10) dX12_behind_7 (by decide) rfl (fun hn => absurd hn g1) (fun _ => ?_)
      refine x_iload_n (pc' := 11) dX12_behind_10 rfl rfl ?_
      refine x_aload_n (pc' := 12) dX12_behind_11 rfl rfl ?_
      refine x_getr (pc' := 15) (t := 107) dX12_behind_12 f_X12_63 (by decide) rfl rfl rfl rfl ?_
      refine x_iconst (pc' := 16) (x := 5) dX12_behind_15 (by decide) rfl ?_
      refine x_iload_n (pc' := 17) dX12_behind_16 rfl rfl ?_
      refine x_imul (pc' := 18) dX12_behind_17 rfl ?_
      refine xg_if h (fun g2 h => ?_)
      refine x_iald (pc' := 19) dX12_behind_18 (by decide) rfl (xok_in g2) rfl ?_
      refine x_iconst (pc' := 20) (x := 5) dX12_behind_19 (by decide) rfl ?_
      refine xg_ite h (fun g3 h => ?_) (fun g3 h => ?_)
      · refine x_icmp_ne (tgt := 27) (pc' := 23) dX12_behind_20 (by decide) rfl (fun hn => absurd g3 hn) (fun _ => ?_)
        refine x_iconst (pc' := 24) (x := 1) dX12_behind_23 (by decide) rfl ?_
        refine x_goto (tgt := 45) dX12_behind_24 (by decide) ?_
        exact r_X12_behind_45 (F_X12_behind_6 n) ih _ _ _ _ _ _ _ _ _ h
      · refine x_icmp_ne (tgt := 27) (pc' := 23) dX12_behind_20 (by decide) rfl (fun _ => ?_) (fun hn => absurd hn g3)
        refine x_aload_n (pc' := 28) dX12_behind_27 rfl rfl ?_
        refine x_getr (pc' := 31) (t := 107) dX12_behind_28 f_X12_63 (by decide) rfl rfl rfl rfl ?_
        refine x_iconst (pc' := 32) (x := 5) dX12_behind_31 (by decide) rfl ?_
        refine x_iload_n (pc' := 33) dX12_behind_32 rfl rfl ?_
        refine x_imul (pc' := 34) dX12_behind_33 rfl ?_
        refine x_iald (pc' := 35) dX12_behind_34 (by decide) rfl (xok_in g2) rfl ?_
        refine x_bipush (pc' := 37) (x := 6) dX12_behind_35 (by decide) rfl ?_
        refine xg_ite h (fun g4 h => ?_) (fun g4 h => ?_)
        · refine x_icmp_ne (tgt := 44) (pc' := 40) dX12_behind_37 (by decide) rfl (fun hn => absurd g4 hn) (fun _ => ?_)
          refine x_iconst (pc' := 41) (x := (-1)) dX12_behind_40 (by decide) rfl ?_
          refine x_goto (tgt := 45) dX12_behind_41 (by decide) ?_
          exact r_X12_behind_45 (F_X12_behind_6 n) ih _ _ _ _ _ _ _ _ _ h
        · refine x_icmp_ne (tgt := 44) (pc' := 40) dX12_behind_37 (by decide) rfl (fun _ => ?_) (fun hn => absurd hn g4)
          refine x_iconst (pc' := 45) (x := 0) dX12_behind_44 (by decide) rfl ?_
          exact r_X12_behind_45 (F_X12_behind_6 n) ih _ _ _ _ _ _ _ _ _ h
def F_X12_behind (v1 : Int32) (hi : Nat → Nat → Int32) (hl : Nat → Nat → Int64) (r : xRr) : Option (Int32 × xSt) := F_X12_behind_6 1000000 (1 : Int32) (v1 + (1 : Int32)) hi hl r
set_option maxRecDepth 20000 in
set_option maxHeartbeats 2000000 in
theorem r_X12_behind (v1 : Int32) (hi : Nat → Nat → Int32) (hl : Nat → Nat → Int64) (r : xRr) (o : Int32 × xSt) (h : F_X12_behind v1 hi hl r = some o) : xM yX12_behind cX12_behind 4 1 (0, 0, 0) z [.ref 90, .int v1] (xhp hi hl r) (xoI o) := by
  refine x_meth2 (C := RX12) (ini := false) (L := [some (.ref 90), some (.int v1), none, none]) rfl (by decide) (fun h9 => by cases h9) (by decide) (Nat.le_of_ble_eq_true rfl) rfl ?_
  refine x_iconst (pc' := 1) (x := 1) dX12_behind_0 (by decide) rfl ?_
  refine x_istore_n (pc' := 2) (L' := [some (.ref 90), some (.int v1), some (.int (1 : Int32)), none]) dX12_behind_1 (Nat.le_of_ble_eq_true rfl) rfl rfl ?_
  refine x_iload_n (pc' := 3) dX12_behind_2 rfl rfl ?_
  refine x_iconst (pc' := 4) (x := 1) dX12_behind_3 (by decide) rfl ?_
  refine x_iadd (pc' := 5) dX12_behind_4 rfl ?_
  refine x_istore_n (pc' := 6) (L' := [some (.ref 90), some (.int v1), some (.int (1 : Int32)), some (.int (v1 + (1 : Int32)))]) dX12_behind_5 (Nat.le_of_ble_eq_true rfl) rfl rfl ?_
  exact r_X12_behind_6 1000000 _ _ _ _ _ _ _ h
def F_X12_isStep_134 (K0 : (Nat → Nat → Int32) → (Nat → Nat → Int64) → xRr → Option (Int32 × xSt)) (s1 : Int32) (hi : Nat → Nat → Int32) (hl : Nat → Nat → Int64) (r : xRr) : Option (Int32 × xSt) := K0 (xu hi 90 38 s1) hl r
set_option maxRecDepth 20000 in
set_option maxHeartbeats 2000000 in
theorem r_X12_isStep_134 (K0 : (Nat → Nat → Int32) → (Nat → Nat → Int64) → xRr → Option (Int32 × xSt)) (hK0 : ∀ (d1 : Option Value) (d2 : Option Value) (hi : Nat → Nat → Int32) (hl : Nat → Nat → Int64) (r : xRr) (o : Int32 × xSt), K0 hi hl r = some o → xR (RX12, cX12_isStep, 3, false, 3) (1, 0, 0) z 0 0 0 [some (.ref 90), d1, d2] [] (xhp hi hl r) (xoI o)) (s1 : Int32) (d1 : Option Value) (d2 : Option Value) (hi : Nat → Nat → Int32) (hl : Nat → Nat → Int64) (r : xRr) (o : Int32 × xSt) (h : F_X12_isStep_134 K0 s1 hi hl r = some o) : xR (RX12, cX12_isStep, 3, false, 3) (1, 0, 0) z 0 0 134 [some (.ref 90), d1, d2] [.int s1, .ref 90] (xhp hi hl r) (xoI o) := by
  refine x_puti (pc' := 137) dX12_isStep_134 f_X12_308 (Or.inl rfl) (by decide) rfl rfl rfl ?_
  refine x_goto (tgt := 0) dX12_isStep_137 (by decide) ?_
  exact hK0 _ _ _ _ _ _ h
def F_X12_isStep_113 (K0 : (Nat → Nat → Int32) → (Nat → Nat → Int64) → xRr → Option (Int32 × xSt)) (v1 : Int32) (v2 : Int32) (s1 : Int32) (s2 : Int32) (hi : Nat → Nat → Int32) (hl : Nat → Nat → Int64) (r : xRr) : Option (Int32 × xSt) := if v2 = 0 then F_X12_isStep_134 K0 (((xu hi 90 39 (s1 - s2)) 90 38) + (1 : Int32)) (xu hi 90 39 (s1 - s2)) hl r else F_X12_isStep_134 K0 (v1 + (1 : Int32)) (xu hi 90 39 (s1 - s2)) hl r
set_option maxRecDepth 20000 in
set_option maxHeartbeats 2000000 in
theorem r_X12_isStep_113 (K0 : (Nat → Nat → Int32) → (Nat → Nat → Int64) → xRr → Option (Int32 × xSt)) (hK0 : ∀ (d1 : Option Value) (d2 : Option Value) (hi : Nat → Nat → Int32) (hl : Nat → Nat → Int64) (r : xRr) (o : Int32 × xSt), K0 hi hl r = some o → xR (RX12, cX12_isStep, 3, false, 3) (1, 0, 0) z 0 0 0 [some (.ref 90), d1, d2] [] (xhp hi hl r) (xoI o)) (v1 : Int32) (v2 : Int32) (s1 : Int32) (s2 : Int32) (hi : Nat → Nat → Int32) (hl : Nat → Nat → Int64) (r : xRr) (o : Int32 × xSt) (h : F_X12_isStep_113 K0 v1 v2 s1 s2 hi hl r = some o) : xR (RX12, cX12_isStep, 3, false, 3) (1, 0, 0) z 0 0 113 [some (.ref 90), some (.int v1), some (.int v2)] [.int s2, .int s1, .ref 90] (xhp hi hl r) (xoI o) := by
  refine x_isub (pc' := 114) dX12_isStep_113 rfl ?_
  refine x_puti (pc' := 117) dX12_isStep_114 f_X12_305 (Or.inl rfl) (by decide) rfl rfl rfl ?_
  refine x_aload_n (pc' := 118) dX12_isStep_117 rfl rfl ?_
  refine x_iload_n (pc' := 119) dX12_isStep_118 rfl rfl ?_
  refine xg_ite h (fun g1 h => ?_) (fun g1 h => ?_)
  · refine x_if_eq (tgt := 128) (pc' := 122) dX12_isStep_119 (by decide) rfl (fun _ => ?_) (fun hn => absurd g1 hn)
    refine x_aload_n (pc' := 129) dX12_isStep_128 rfl rfl ?_
    refine x_geti (pc' := 132) dX12_isStep_129 f_X12_308 (by decide) rfl rfl rfl ?_
    refine x_iconst (pc' := 133) (x := 1) dX12_isStep_132 (by decide) rfl ?_
    refine x_iadd (pc' := 134) dX12_isStep_133 rfl ?_
    exact r_X12_isStep_134 K0 hK0 _ _ _ _ _ _ _ h
  · refine x_if_eq (tgt := 128) (pc' := 122) dX12_isStep_119 (by decide) rfl (fun hn => absurd hn g1) (fun _ => ?_)
    refine x_iload_n (pc' := 123) dX12_isStep_122 rfl rfl ?_
    refine x_iconst (pc' := 124) (x := 1) dX12_isStep_123 (by decide) rfl ?_
    refine x_iadd (pc' := 125) dX12_isStep_124 rfl ?_
    refine x_goto (tgt := 134) dX12_isStep_125 (by decide) ?_
    exact r_X12_isStep_134 K0 hK0 _ _ _ _ _ _ _ h
def F_X12_isStep_98 (K0 : (Nat → Nat → Int32) → (Nat → Nat → Int64) → xRr → Option (Int32 × xSt)) (v1 : Int32) (s0 : Int32) (hi : Nat → Nat → Int32) (hl : Nat → Nat → Int64) (r : xRr) : Option (Int32 × xSt) := if s0 = 0 then F_X12_isStep_113 K0 v1 s0 (hi 90 39) (1 : Int32) hi hl r else F_X12_isStep_113 K0 v1 s0 (hi 90 39) (0 : Int32) hi hl r
set_option maxRecDepth 20000 in
set_option maxHeartbeats 2000000 in
theorem r_X12_isStep_98 (K0 : (Nat → Nat → Int32) → (Nat → Nat → Int64) → xRr → Option (Int32 × xSt)) (hK0 : ∀ (d1 : Option Value) (d2 : Option Value) (hi : Nat → Nat → Int32) (hl : Nat → Nat → Int64) (r : xRr) (o : Int32 × xSt), K0 hi hl r = some o → xR (RX12, cX12_isStep, 3, false, 3) (1, 0, 0) z 0 0 0 [some (.ref 90), d1, d2] [] (xhp hi hl r) (xoI o)) (v1 : Int32) (s0 : Int32) (d2 : Option Value) (hi : Nat → Nat → Int32) (hl : Nat → Nat → Int64) (r : xRr) (o : Int32 × xSt) (h : F_X12_isStep_98 K0 v1 s0 hi hl r = some o) : xR (RX12, cX12_isStep, 3, false, 3) (1, 0, 0) z 0 0 98 [some (.ref 90), some (.int v1), d2] [.int s0] (xhp hi hl r) (xoI o) := by
  refine x_istore_n (pc' := 99) (L' := [some (.ref 90), some (.int v1), some (.int s0)]) dX12_isStep_98 (Nat.le_of_ble_eq_true rfl) rfl rfl ?_
  refine x_aload_n (pc' := 100) dX12_isStep_99 rfl rfl ?_
  refine x_dup (pc' := 101) dX12_isStep_100 rfl rfl ?_
  refine x_geti (pc' := 104) dX12_isStep_101 f_X12_305 (by decide) rfl rfl rfl ?_
  refine x_iload_n (pc' := 105) dX12_isStep_104 rfl rfl ?_
  refine xg_ite h (fun g1 h => ?_) (fun g1 h => ?_)
  · refine x_if_eq (tgt := 112) (pc' := 108) dX12_isStep_105 (by decide) rfl (fun _ => ?_) (fun hn => absurd g1 hn)
    refine x_iconst (pc' := 113) (x := 1) dX12_isStep_112 (by decide) rfl ?_
    exact r_X12_isStep_113 K0 hK0 _ _ _ _ _ _ _ _ h
  · refine x_if_eq (tgt := 112) (pc' := 108) dX12_isStep_105 (by decide) rfl (fun hn => absurd hn g1) (fun _ => ?_)
    refine x_iconst (pc' := 109) (x := 0) dX12_isStep_108 (by decide) rfl ?_
    refine x_goto (tgt := 113) dX12_isStep_109 (by decide) ?_
    exact r_X12_isStep_113 K0 hK0 _ _ _ _ _ _ _ _ h
def F_X12_isStep_217 (hi : Nat → Nat → Int32) (hl : Nat → Nat → Int64) (r : xRr) : Option (Int32 × xSt) := if (hi 90 22) ≤ (hi 90 38) then some ((0 : Int32), hi, hl, r) else some ((1 : Int32), hi, hl, r)
set_option maxRecDepth 20000 in
set_option maxHeartbeats 2000000 in
theorem r_X12_isStep_217 (d1 : Option Value) (d2 : Option Value) (hi : Nat → Nat → Int32) (hl : Nat → Nat → Int64) (r : xRr) (o : Int32 × xSt) (h : F_X12_isStep_217 hi hl r = some o) : xR (RX12, cX12_isStep, 3, false, 3) (1, 0, 0) z 0 0 217 [some (.ref 90), d1, d2] [] (xhp hi hl r) (xoI o) := by
  refine x_aload_n (pc' := 218) dX12_isStep_217 rfl rfl ?_
  refine x_geti (pc' := 221) dX12_isStep_218 f_X12_308 (by decide) rfl rfl rfl ?_
  refine x_aload_n (pc' := 222) dX12_isStep_221 rfl rfl ?_
  refine x_geti (pc' := 225) dX12_isStep_222 f_X12_172 (by decide) rfl rfl rfl ?_
  refine xg_ite h (fun g1 h => ?_) (fun g1 h => ?_)
  · refine x_icmp_ge (tgt := 232) (pc' := 228) dX12_isStep_225 (by decide) rfl (fun _ => ?_) (fun hn => absurd g1 hn)
    refine x_iconst (pc' := 233) (x := 0) dX12_isStep_232 (by decide) rfl ?_
    obtain rfl := Option.some.inj h
    exact x_zret dX12_isStep_233 rfl (Or.inl rfl) rfl (Nat.le_of_ble_eq_true rfl) rfl
  · refine x_icmp_ge (tgt := 232) (pc' := 228) dX12_isStep_225 (by decide) rfl (fun hn => absurd hn g1) (fun _ => ?_)
    refine x_iconst (pc' := 229) (x := 1) dX12_isStep_228 (by decide) rfl ?_
    refine x_goto (tgt := 233) dX12_isStep_229 (by decide) ?_
    obtain rfl := Option.some.inj h
    exact x_zret dX12_isStep_233 rfl (Or.inr rfl) rfl (Nat.le_of_ble_eq_true rfl) rfl
def F_X12_isStep_0 : Nat → (Nat → Nat → Int32) → (Nat → Nat → Int64) → xRr → Option (Int32 × xSt)
  | 0, _, _, _ => none
  | n + 1, hi, hl, r => if (hi 90 22) ≤ (hi 90 38) then F_X12_isStep_217 hi hl r else if xok ((5 : Int32) * (hi 90 38)) 80 = true then if (hi 107 (Int32.toNatClampNeg ((5 : Int32) * (hi 90 38)))) ≤ (4 : Int32) then F_X12_isStep_217 hi hl r else if (hi 107 (Int32.toNatClampNeg ((5 : Int32) * (hi 90 38)))) = (6 : Int32) then if xok ((hi 90 39) - (1 : Int32)) 3 = true then if xok (((xu hi 118 (Int32.toNatClampNeg ((hi 90 39) - (1 : Int32))) ((hi 118 (Int32.toNatClampNeg ((hi 90 39) - (1 : Int32)))) + (1 : Int32))) 90 39) - (1 : Int32)) 3 = true then if xok (((5 : Int32) * (hi 117 (Int32.toNatClampNeg ((hi 90 39) - (1 : Int32))))) + (1 : Int32)) 80 = true then if ((xu hi 118 (Int32.toNatClampNeg ((hi 90 39) - (1 : Int32))) ((hi 118 (Int32.toNatClampNeg ((hi 90 39) - (1 : Int32)))) + (1 : Int32))) 107 (Int32.toNatClampNeg (((5 : Int32) * (hi 117 (Int32.toNatClampNeg ((hi 90 39) - (1 : Int32))))) + (1 : Int32)))) ≤ ((xu hi 118 (Int32.toNatClampNeg ((hi 90 39) - (1 : Int32))) ((hi 118 (Int32.toNatClampNeg ((hi 90 39) - (1 : Int32)))) + (1 : Int32))) 118 (Int32.toNatClampNeg (((xu hi 118 (Int32.toNatClampNeg ((hi 90 39) - (1 : Int32))) ((hi 118 (Int32.toNatClampNeg ((hi 90 39) - (1 : Int32)))) + (1 : Int32))) 90 39) - (1 : Int32)))) then F_X12_isStep_98 (F_X12_isStep_0 n) (hi 117 (Int32.toNatClampNeg ((hi 90 39) - (1 : Int32)))) (0 : Int32) (xu hi 118 (Int32.toNatClampNeg ((hi 90 39) - (1 : Int32))) ((hi 118 (Int32.toNatClampNeg ((hi 90 39) - (1 : Int32)))) + (1 : Int32))) hl r else F_X12_isStep_98 (F_X12_isStep_0 n) (hi 117 (Int32.toNatClampNeg ((hi 90 39) - (1 : Int32)))) (1 : Int32) (xu hi 118 (Int32.toNatClampNeg ((hi 90 39) - (1 : Int32))) ((hi 118 (Int32.toNatClampNeg ((hi 90 39) - (1 : Int32)))) + (1 : Int32))) hl r else none else none else none else if xok (((5 : Int32) * (hi 90 38)) + (1 : Int32)) 80 = true then if (hi 107 (Int32.toNatClampNeg (((5 : Int32) * (hi 90 38)) + (1 : Int32)))) = 0 then xbI (F_X12_behind (hi 90 38) hi hl r) (fun w12 hi12 hl12 r12 => (F_X12_isStep_0 n) (xu hi12 90 38 w12) hl12 r12) else if xok (hi 90 39) 3 = true then if xok ((xu hi 117 (Int32.toNatClampNeg (hi 90 39)) (hi 90 38)) 90 39) 3 = true then (F_X12_isStep_0 n) (xu (xu (xu (xu hi 117 (Int32.toNatClampNeg (hi 90 39)) (hi 90 38)) 118 (Int32.toNatClampNeg ((xu hi 117 (Int32.toNatClampNeg (hi 90 39)) (hi 90 38)) 90 39)) (0 : Int32)) 90 39 (((xu (xu hi 117 (Int32.toNatClampNeg (hi 90 39)) (hi 90 38)) 118 (Int32.toNatClampNeg ((xu hi 117 (Int32.toNatClampNeg (hi 90 39)) (hi 90 38)) 90 39)) (0 : Int32)) 90 39) + (1 : Int32))) 90 38 (((xu (xu (xu hi 117 (Int32.toNatClampNeg (hi 90 39)) (hi 90 38)) 118 (Int32.toNatClampNeg ((xu hi 117 (Int32.toNatClampNeg (hi 90 39)) (hi 90 38)) 90 39)) (0 : Int32)) 90 39 (((xu (xu hi 117 (Int32.toNatClampNeg (hi 90 39)) (hi 90 38)) 118 (Int32.toNatClampNeg ((xu hi 117 (Int32.toNatClampNeg (hi 90 39)) (hi 90 38)) 90 39)) (0 : Int32)) 90 39) + (1 : Int32))) 90 38) + (1 : Int32))) hl r else none else none else none else none
set_option maxRecDepth 20000 in
set_option maxHeartbeats 2000000 in
theorem r_X12_isStep_0 : ∀ (n : Nat) (d1 : Option Value) (d2 : Option Value) (hi : Nat → Nat → Int32) (hl : Nat → Nat → Int64) (r : xRr) (o : Int32 × xSt), F_X12_isStep_0 n hi hl r = some o → xR (RX12, cX12_isStep, 3, false, 3) (1, 0, 0) z 0 0 0 [some (.ref 90), d1, d2] [] (xhp hi hl r) (xoI o) := by
  intro n
  induction n with
  | zero =>
    intro d1 d2 hi hl r o h
    have h : none = some o := h
    cases h
  | succ n ih =>
    intro d1 d2 hi hl r o h
    refine x_aload_n (pc' := 1) dX12_isStep_0 rfl rfl ?_
    refine x_geti (pc' := 4) dX12_isStep_1 f_X12_308 (by decide) rfl rfl rfl ?_
    refine x_aload_n (pc' := 5) dX12_isStep_4 rfl rfl ?_
    refine x_geti (pc' := 8) dX12_isStep_5 f_X12_172 (by decide) rfl rfl rfl ?_
    refine xg_ite h (fun g1 h => ?_) (fun g1 h => ?_)
    · refine x_icmp_ge (tgt := 217) (pc' := 11) dX12_isStep_8 (by decide) rfl (fun _ => ?_) (fun hn => absurd g1 hn)
      exact r_X12_isStep_217 _ _ _ _ _ _ h
    · refine x_icmp_ge (tgt := 217) (pc' := 11) dX12_isStep_8 (by decide) rfl (fun hn => absurd hn g1) (fun _ => ?_)
      refine x_aload_n (pc' := 12) dX12_isStep_11 rfl rfl ?_
      refine x_getr (pc' := 15) (t := 107) dX12_isStep_12 f_X12_63 (by decide) rfl rfl rfl rfl ?_
      refine x_iconst (pc' := 16) (x := 5) dX12_isStep_15 (by decide) rfl ?_
      refine x_aload_n (pc' := 17) dX12_isStep_16 rfl rfl ?_
      refine x_geti (pc' := 20) dX12_isStep_17 f_X12_308 (by decide) rfl rfl rfl ?_
      refine x_imul (pc' := 21) dX12_isStep_20 rfl ?_
      refine xg_if h (fun g2 h => ?_)
      refine x_iald (pc' := 22) dX12_isStep_21 (by decide) rfl (xok_in g2) rfl ?_
      refine x_iconst (pc' := 23) (x := 4) dX12_isStep_22 (by decide) rfl ?_
      refine xg_ite h (fun g3 h => ?_) (fun g3 h => ?_)
      · refine x_icmp_le (tgt := 217) (pc' := 26) dX12_isStep_23 (by decide) rfl (fun _ => ?_) (fun hn => absurd g3 hn)
        exact r_X12_isStep_217 _ _ _ _ _ _ h
      · refine x_icmp_le (tgt := 217) (pc' := 26) dX12_isStep_23 (by decide) rfl (fun hn => absurd hn g3) (fun _ => ?_)
        refine x_aload_n (pc' := 27) dX12_isStep_26 rfl rfl ?_
        refine x_getr (pc' := 30) (t := 107) dX12_isStep_27 f_X12_63 (by decide) rfl rfl rfl rfl ?_
        refine x_iconst (pc' := 31) (x := 5) dX12_isStep_30 (by decide) rfl ?_
        refine x_aload_n (pc' := 32) dX12_isStep_31 rfl rfl ?_
        refine x_geti (pc' := 35) dX12_isStep_32 f_X12_308 (by decide) rfl rfl rfl ?_
        refine x_imul (pc' := 36) dX12_isStep_35 rfl ?_
        refine x_iald (pc' := 37) dX12_isStep_36 (by decide) rfl (xok_in g2) rfl ?_
        refine x_bipush (pc' := 39) (x := 6) dX12_isStep_37 (by decide) rfl ?_
        refine xg_ite h (fun g4 h => ?_) (fun g4 h => ?_)
        · refine x_icmp_ne (tgt := 140) (pc' := 42) dX12_isStep_39 (by decide) rfl (fun hn => absurd g4 hn) (fun _ => ?_)
          refine x_aload_n (pc' := 43) dX12_isStep_42 rfl rfl ?_
          refine x_getr (pc' := 46) (t := 117) dX12_isStep_43 f_X12_94 (by decide) rfl rfl rfl rfl ?_
          refine x_aload_n (pc' := 47) dX12_isStep_46 rfl rfl ?_
          refine x_geti (pc' := 50) dX12_isStep_47 f_X12_305 (by decide) rfl rfl rfl ?_
          refine x_iconst (pc' := 51) (x := 1) dX12_isStep_50 (by decide) rfl ?_
          refine x_isub (pc' := 52) dX12_isStep_51 rfl ?_
          refine xg_if h (fun g5 h => ?_)
          refine x_iald (pc' := 53) dX12_isStep_52 (by decide) rfl (xok_in g5) rfl ?_
          refine x_istore_n (pc' := 54) (L' := [some (.ref 90), some (.int (hi 117 (Int32.toNatClampNeg ((hi 90 39) - (1 : Int32))))), d2]) dX12_isStep_53 (Nat.le_of_ble_eq_true rfl) rfl rfl ?_
          refine x_aload_n (pc' := 55) dX12_isStep_54 rfl rfl ?_
          refine x_getr (pc' := 58) (t := 118) dX12_isStep_55 f_X12_97 (by decide) rfl rfl rfl rfl ?_
          refine x_aload_n (pc' := 59) dX12_isStep_58 rfl rfl ?_
          refine x_geti (pc' := 62) dX12_isStep_59 f_X12_305 (by decide) rfl rfl rfl ?_
          refine x_iconst (pc' := 63) (x := 1) dX12_isStep_62 (by decide) rfl ?_
          refine x_isub (pc' := 64) dX12_isStep_63 rfl ?_
          refine x_dup2 (pc' := 65) dX12_isStep_64 rfl rfl rfl ?_
          refine x_iald (pc' := 66) dX12_isStep_65 (by decide) rfl (xok_in g5) rfl ?_
          refine x_iconst (pc' := 67) (x := 1) dX12_isStep_66 (by decide) rfl ?_
          refine x_iadd (pc' := 68) dX12_isStep_67 rfl ?_
          refine x_iast (pc' := 69) dX12_isStep_68 (by decide) rfl (xok_in g5) rfl ?_
          refine x_aload_n (pc' := 70) dX12_isStep_69 rfl rfl ?_
          refine x_getr (pc' := 73) (t := 118) dX12_isStep_70 f_X12_97 (by decide) rfl rfl rfl rfl ?_
          refine x_aload_n (pc' := 74) dX12_isStep_73 rfl rfl ?_
          refine x_geti (pc' := 77) dX12_isStep_74 f_X12_305 (by decide) rfl rfl rfl ?_
          refine x_iconst (pc' := 78) (x := 1) dX12_isStep_77 (by decide) rfl ?_
          refine x_isub (pc' := 79) dX12_isStep_78 rfl ?_
          refine xg_if h (fun g6 h => ?_)
          refine x_iald (pc' := 80) dX12_isStep_79 (by decide) rfl (xok_in g6) rfl ?_
          refine x_aload_n (pc' := 81) dX12_isStep_80 rfl rfl ?_
          refine x_getr (pc' := 84) (t := 107) dX12_isStep_81 f_X12_63 (by decide) rfl rfl rfl rfl ?_
          refine x_iconst (pc' := 85) (x := 5) dX12_isStep_84 (by decide) rfl ?_
          refine x_iload_n (pc' := 86) dX12_isStep_85 rfl rfl ?_
          refine x_imul (pc' := 87) dX12_isStep_86 rfl ?_
          refine x_iconst (pc' := 88) (x := 1) dX12_isStep_87 (by decide) rfl ?_
          refine x_iadd (pc' := 89) dX12_isStep_88 rfl ?_
          refine xg_if h (fun g7 h => ?_)
          refine x_iald (pc' := 90) dX12_isStep_89 (by decide) rfl (xok_in g7) rfl ?_
          refine xg_ite h (fun g8 h => ?_) (fun g8 h => ?_)
          · refine x_icmp_ge (tgt := 97) (pc' := 93) dX12_isStep_90 (by decide) rfl (fun _ => ?_) (fun hn => absurd g8 hn)
            refine x_iconst (pc' := 98) (x := 0) dX12_isStep_97 (by decide) rfl ?_
            exact r_X12_isStep_98 (F_X12_isStep_0 n) ih _ _ _ _ _ _ _ h
          · refine x_icmp_ge (tgt := 97) (pc' := 93) dX12_isStep_90 (by decide) rfl (fun hn => absurd hn g8) (fun _ => ?_)
            refine x_iconst (pc' := 94) (x := 1) dX12_isStep_93 (by decide) rfl ?_
            refine x_goto (tgt := 98) dX12_isStep_94 (by decide) ?_
            exact r_X12_isStep_98 (F_X12_isStep_0 n) ih _ _ _ _ _ _ _ h
        · refine x_icmp_ne (tgt := 140) (pc' := 42) dX12_isStep_39 (by decide) rfl (fun _ => ?_) (fun hn => absurd hn g4)
          refine x_aload_n (pc' := 141) dX12_isStep_140 rfl rfl ?_
          refine x_getr (pc' := 144) (t := 107) dX12_isStep_141 f_X12_63 (by decide) rfl rfl rfl rfl ?_
          refine x_iconst (pc' := 145) (x := 5) dX12_isStep_144 (by decide) rfl ?_
          refine x_aload_n (pc' := 146) dX12_isStep_145 rfl rfl ?_
          refine x_geti (pc' := 149) dX12_isStep_146 f_X12_308 (by decide) rfl rfl rfl ?_
          refine x_imul (pc' := 150) dX12_isStep_149 rfl ?_
          refine x_iconst (pc' := 151) (x := 1) dX12_isStep_150 (by decide) rfl ?_
          refine x_iadd (pc' := 152) dX12_isStep_151 rfl ?_
          refine xg_if h (fun g9 h => ?_)
          refine x_iald (pc' := 153) dX12_isStep_152 (by decide) rfl (xok_in g9) rfl ?_
          refine xg_ite h (fun g10 h => ?_) (fun g10 h => ?_)
          · refine x_if_ne (tgt := 171) (pc' := 156) dX12_isStep_153 (by decide) rfl (fun hn => absurd g10 hn) (fun _ => ?_)
            refine x_aload_n (pc' := 157) dX12_isStep_156 rfl rfl ?_
            refine x_aload_n (pc' := 158) dX12_isStep_157 rfl rfl ?_
            refine x_aload_n (pc' := 159) dX12_isStep_158 rfl rfl ?_
            refine x_geti (pc' := 162) dX12_isStep_159 f_X12_308 (by decide) rfl rfl rfl ?_
            refine xg_bI h (fun w12 hi12 hl12 r12 e11 h => ?_)
            refine x_callV (pc' := 165) (S := [.ref 90]) (As := [.int (hi 90 38)]) (b' := (0, 0, 0)) dX12_isStep_162 l_X12_311 m_X12_behind rfl rfl (show 90 < 122 by decide) rfl (Nat.le_of_ble_eq_true rfl) (Nat.le_of_ble_eq_true rfl) (Nat.le_of_ble_eq_true rfl) (Nat.le_of_ble_eq_true rfl) (r_X12_behind _ _ _ _ _ e11) rfl ?_
            refine x_puti (pc' := 168) dX12_isStep_165 f_X12_308 (Or.inl rfl) (by decide) rfl rfl rfl ?_
            refine x_goto (tgt := 0) dX12_isStep_168 (by decide) ?_
            exact ih _ _ _ _ _ _ h
          · refine x_if_ne (tgt := 171) (pc' := 156) dX12_isStep_153 (by decide) rfl (fun _ => ?_) (fun hn => absurd hn g10)
            refine x_aload_n (pc' := 172) dX12_isStep_171 rfl rfl ?_
            refine x_getr (pc' := 175) (t := 117) dX12_isStep_172 f_X12_94 (by decide) rfl rfl rfl rfl ?_
            refine x_aload_n (pc' := 176) dX12_isStep_175 rfl rfl ?_
            refine x_geti (pc' := 179) dX12_isStep_176 f_X12_305 (by decide) rfl rfl rfl ?_
            refine x_aload_n (pc' := 180) dX12_isStep_179 rfl rfl ?_
            refine x_geti (pc' := 183) dX12_isStep_180 f_X12_308 (by decide) rfl rfl rfl ?_
            refine xg_if h (fun g13 h => ?_)
            refine x_iast (pc' := 184) dX12_isStep_183 (by decide) rfl (xok_in g13) rfl ?_
            refine x_aload_n (pc' := 185) dX12_isStep_184 rfl rfl ?_
            refine x_getr (pc' := 188) (t := 118) dX12_isStep_185 f_X12_97 (by decide) rfl rfl rfl rfl ?_
            refine x_aload_n (pc' := 189) dX12_isStep_188 rfl rfl ?_
            refine x_geti (pc' := 192) dX12_isStep_189 f_X12_305 (by decide) rfl rfl rfl ?_
            refine x_iconst (pc' := 193) (x := 0) dX12_isStep_192 (by decide) rfl ?_
            refine xg_if h (fun g14 h => ?_)
            refine x_iast (pc' := 194) dX12_isStep_193 (by decide) rfl (xok_in g14) rfl ?_
            refine x_aload_n (pc' := 195) dX12_isStep_194 rfl rfl ?_
            refine x_dup (pc' := 196) dX12_isStep_195 rfl rfl ?_
            refine x_geti (pc' := 199) dX12_isStep_196 f_X12_305 (by decide) rfl rfl rfl ?_
            refine x_iconst (pc' := 200) (x := 1) dX12_isStep_199 (by decide) rfl ?_
            refine x_iadd (pc' := 201) dX12_isStep_200 rfl ?_
            refine x_puti (pc' := 204) dX12_isStep_201 f_X12_305 (Or.inl rfl) (by decide) rfl rfl rfl ?_
            refine x_aload_n (pc' := 205) dX12_isStep_204 rfl rfl ?_
            refine x_dup (pc' := 206) dX12_isStep_205 rfl rfl ?_
            refine x_geti (pc' := 209) dX12_isStep_206 f_X12_308 (by decide) rfl rfl rfl ?_
            refine x_iconst (pc' := 210) (x := 1) dX12_isStep_209 (by decide) rfl ?_
            refine x_iadd (pc' := 211) dX12_isStep_210 rfl ?_
            refine x_puti (pc' := 214) dX12_isStep_211 f_X12_308 (Or.inl rfl) (by decide) rfl rfl rfl ?_
            refine x_goto (tgt := 0) dX12_isStep_214 (by decide) ?_
            exact ih _ _ _ _ _ _ h
def F_X12_isStep (hi : Nat → Nat → Int32) (hl : Nat → Nat → Int64) (r : xRr) : Option (Int32 × xSt) := F_X12_isStep_0 1000000 hi hl r
set_option maxRecDepth 20000 in
set_option maxHeartbeats 2000000 in
theorem r_X12_isStep (hi : Nat → Nat → Int32) (hl : Nat → Nat → Int64) (r : xRr) (o : Int32 × xSt) (h : F_X12_isStep hi hl r = some o) : xM yX12_isStep cX12_isStep 3 3 (1, 0, 0) z [.ref 90] (xhp hi hl r) (xoI o) := by
  refine x_meth2 (C := RX12) (ini := false) (L := [some (.ref 90), none, none]) rfl (by decide) (fun h9 => by cases h9) (by decide) (Nat.le_of_ble_eq_true rfl) rfl ?_
  exact r_X12_isStep_0 1000000 _ _ _ _ _ _ h
def F_X12_placeNow (v1 : Int32) (hi : Nat → Nat → Int32) (hl : Nat → Nat → Int64) (r : xRr) : Option (Int32 × xSt) := if (12 : Int32) ≤ v1 then if ((hi 90 39) - (v1 - (11 : Int32))) < 0 then some ((0 : Int32), hi, hl, r) else if xok ((hi 90 39) - (v1 - (11 : Int32))) 3 = true then some ((hi 118 (Int32.toNatClampNeg ((hi 90 39) - (v1 - (11 : Int32))))), hi, hl, r) else none else some (v1, hi, hl, r)
set_option maxRecDepth 20000 in
set_option maxHeartbeats 2000000 in
theorem r_X12_placeNow (v1 : Int32) (hi : Nat → Nat → Int32) (hl : Nat → Nat → Int64) (r : xRr) (o : Int32 × xSt) (h : F_X12_placeNow v1 hi hl r = some o) : xM yX12_placeNow cX12_placeNow 3 1 (0, 0, 0) z [.ref 90, .int v1] (xhp hi hl r) (xoI o) := by
  refine x_meth2 (C := RX12) (ini := false) (L := [some (.ref 90), some (.int v1), none]) rfl (by decide) (fun h9 => by cases h9) (by decide) (Nat.le_of_ble_eq_true rfl) rfl ?_
  refine x_aload_n (pc' := 1) dX12_placeNow_0 rfl rfl ?_
  refine x_geti (pc' := 4) dX12_placeNow_1 f_X12_305 (by decide) rfl rfl rfl ?_
  refine x_iload_n (pc' := 5) dX12_placeNow_4 rfl rfl ?_
  refine x_bipush (pc' := 7) (x := 11) dX12_placeNow_5 (by decide) rfl ?_
  refine x_isub (pc' := 8) dX12_placeNow_7 rfl ?_
  refine x_isub (pc' := 9) dX12_placeNow_8 rfl ?_
  refine x_istore_n (pc' := 10) (L' := [some (.ref 90), some (.int v1), some (.int ((hi 90 39) - (v1 - (11 : Int32))))]) dX12_placeNow_9 (Nat.le_of_ble_eq_true rfl) rfl rfl ?_
  refine x_iload_n (pc' := 11) dX12_placeNow_10 rfl rfl ?_
  refine x_bipush (pc' := 13) (x := 12) dX12_placeNow_11 (by decide) rfl ?_
  refine xg_ite h (fun g1 h => ?_) (fun g1 h => ?_)
  · refine x_icmp_ge (tgt := 20) (pc' := 16) dX12_placeNow_13 (by decide) rfl (fun _ => ?_) (fun hn => absurd g1 hn)
    refine x_iload_n (pc' := 21) dX12_placeNow_20 rfl rfl ?_
    refine xg_ite h (fun g2 h => ?_) (fun g2 h => ?_)
    · refine x_if_lt (tgt := 33) (pc' := 24) dX12_placeNow_21 (by decide) rfl (fun _ => ?_) (fun hn => absurd g2 hn)
      refine x_iconst (pc' := 34) (x := 0) dX12_placeNow_33 (by decide) rfl ?_
      obtain rfl := Option.some.inj h
      exact x_iret dX12_placeNow_34 rfl rfl (Nat.le_of_ble_eq_true rfl) rfl
    · refine x_if_lt (tgt := 33) (pc' := 24) dX12_placeNow_21 (by decide) rfl (fun hn => absurd hn g2) (fun _ => ?_)
      refine x_aload_n (pc' := 25) dX12_placeNow_24 rfl rfl ?_
      refine x_getr (pc' := 28) (t := 118) dX12_placeNow_25 f_X12_97 (by decide) rfl rfl rfl rfl ?_
      refine x_iload_n (pc' := 29) dX12_placeNow_28 rfl rfl ?_
      refine xg_if h (fun g3 h => ?_)
      refine x_iald (pc' := 30) dX12_placeNow_29 (by decide) rfl (xok_in g3) rfl ?_
      refine x_goto (tgt := 34) dX12_placeNow_30 (by decide) ?_
      obtain rfl := Option.some.inj h
      exact x_iret dX12_placeNow_34 rfl rfl (Nat.le_of_ble_eq_true rfl) rfl
  · refine x_icmp_ge (tgt := 20) (pc' := 16) dX12_placeNow_13 (by decide) rfl (fun hn => absurd hn g1) (fun _ => ?_)
    refine x_iload_n (pc' := 17) dX12_placeNow_16 rfl rfl ?_
    refine x_goto (tgt := 34) dX12_placeNow_17 (by decide) ?_
    obtain rfl := Option.some.inj h
    exact x_iret dX12_placeNow_34 rfl rfl (Nat.le_of_ble_eq_true rfl) rfl
def F_X12_goesNow (v1 : Int32) (hi : Nat → Nat → Int32) (hl : Nat → Nat → Int64) (r : xRr) : Option (Int32 × xSt) := if xok ((5 : Int32) * (hi 90 38)) 80 = true then if xok (((5 : Int32) * (hi 90 38)) + (1 : Int32)) 80 = true then if xok (((5 : Int32) * (hi 90 38)) + (2 : Int32)) 80 = true then xbI (F_X12_placeNow (hi 107 (Int32.toNatClampNeg (((5 : Int32) * (hi 90 38)) + (2 : Int32)))) hi hl r) (fun w5 hi5 hl5 r5 => if xok (((5 : Int32) * (hi 90 38)) + (3 : Int32)) 80 = true then if xok (((5 : Int32) * (hi 90 38)) + (4 : Int32)) 80 = true then xbI (F_X12_placeNow (hi5 107 (Int32.toNatClampNeg (((5 : Int32) * (hi 90 38)) + (4 : Int32)))) hi5 hl5 r5) (fun w9 hi9 hl9 r9 => xbI (F_X12_goes (hi 107 (Int32.toNatClampNeg ((5 : Int32) * (hi 90 38)))) (hi 107 (Int32.toNatClampNeg (((5 : Int32) * (hi 90 38)) + (1 : Int32)))) w5 (hi5 107 (Int32.toNatClampNeg (((5 : Int32) * (hi 90 38)) + (3 : Int32)))) w9 v1 hi9 hl9 r9) (fun w11 hi11 hl11 r11 => some (w11, hi11, hl11, r11))) else none else none) else none else none else none
set_option maxRecDepth 20000 in
set_option maxHeartbeats 2000000 in
theorem r_X12_goesNow (v1 : Int32) (hi : Nat → Nat → Int32) (hl : Nat → Nat → Int64) (r : xRr) (o : Int32 × xSt) (h : F_X12_goesNow v1 hi hl r = some o) : xM yX12_goesNow cX12_goesNow 3 1 (7, 0, 0) z [.ref 90, .int v1] (xhp hi hl r) (xoI o) := by
  refine x_meth2 (C := RX12) (ini := false) (L := [some (.ref 90), some (.int v1), none]) rfl (by decide) (fun h9 => by cases h9) (by decide) (Nat.le_of_ble_eq_true rfl) rfl ?_
  refine x_iconst (pc' := 1) (x := 5) dX12_goesNow_0 (by decide) rfl ?_
  refine x_aload_n (pc' := 2) dX12_goesNow_1 rfl rfl ?_
  refine x_geti (pc' := 5) dX12_goesNow_2 f_X12_308 (by decide) rfl rfl rfl ?_
  refine x_imul (pc' := 6) dX12_goesNow_5 rfl ?_
  refine x_istore_n (pc' := 7) (L' := [some (.ref 90), some (.int v1), some (.int ((5 : Int32) * (hi 90 38)))]) dX12_goesNow_6 (Nat.le_of_ble_eq_true rfl) rfl rfl ?_
  refine x_aload_n (pc' := 8) dX12_goesNow_7 rfl rfl ?_
  refine x_aload_n (pc' := 9) dX12_goesNow_8 rfl rfl ?_
  refine x_getr (pc' := 12) (t := 107) dX12_goesNow_9 f_X12_63 (by decide) rfl rfl rfl rfl ?_
  refine x_iload_n (pc' := 13) dX12_goesNow_12 rfl rfl ?_
  refine xg_if h (fun g1 h => ?_)
  refine x_iald (pc' := 14) dX12_goesNow_13 (by decide) rfl (xok_in g1) rfl ?_
  refine x_aload_n (pc' := 15) dX12_goesNow_14 rfl rfl ?_
  refine x_getr (pc' := 18) (t := 107) dX12_goesNow_15 f_X12_63 (by decide) rfl rfl rfl rfl ?_
  refine x_iload_n (pc' := 19) dX12_goesNow_18 rfl rfl ?_
  refine x_iconst (pc' := 20) (x := 1) dX12_goesNow_19 (by decide) rfl ?_
  refine x_iadd (pc' := 21) dX12_goesNow_20 rfl ?_
  refine xg_if h (fun g2 h => ?_)
  refine x_iald (pc' := 22) dX12_goesNow_21 (by decide) rfl (xok_in g2) rfl ?_
  refine x_aload_n (pc' := 23) dX12_goesNow_22 rfl rfl ?_
  refine x_aload_n (pc' := 24) dX12_goesNow_23 rfl rfl ?_
  refine x_getr (pc' := 27) (t := 107) dX12_goesNow_24 f_X12_63 (by decide) rfl rfl rfl rfl ?_
  refine x_iload_n (pc' := 28) dX12_goesNow_27 rfl rfl ?_
  refine x_iconst (pc' := 29) (x := 2) dX12_goesNow_28 (by decide) rfl ?_
  refine x_iadd (pc' := 30) dX12_goesNow_29 rfl ?_
  refine xg_if h (fun g3 h => ?_)
  refine x_iald (pc' := 31) dX12_goesNow_30 (by decide) rfl (xok_in g3) rfl ?_
  refine xg_bI h (fun w5 hi5 hl5 r5 e4 h => ?_)
  refine x_callV (pc' := 34) (S := [.int (hi 107 (Int32.toNatClampNeg (((5 : Int32) * (hi 90 38)) + (1 : Int32)))), .int (hi 107 (Int32.toNatClampNeg ((5 : Int32) * (hi 90 38)))), .ref 90]) (As := [.int (hi 107 (Int32.toNatClampNeg (((5 : Int32) * (hi 90 38)) + (2 : Int32))))]) (b' := (0, 0, 0)) dX12_goesNow_31 l_X12_314 m_X12_placeNow rfl rfl (show 90 < 122 by decide) rfl (Nat.le_of_ble_eq_true rfl) (Nat.le_of_ble_eq_true rfl) (Nat.le_of_ble_eq_true rfl) (Nat.le_of_ble_eq_true rfl) (r_X12_placeNow _ _ _ _ _ e4) rfl ?_
  refine x_aload_n (pc' := 35) dX12_goesNow_34 rfl rfl ?_
  refine x_getr (pc' := 38) (t := 107) dX12_goesNow_35 f_X12_63 (by decide) rfl rfl rfl rfl ?_
  refine x_iload_n (pc' := 39) dX12_goesNow_38 rfl rfl ?_
  refine x_iconst (pc' := 40) (x := 3) dX12_goesNow_39 (by decide) rfl ?_
  refine x_iadd (pc' := 41) dX12_goesNow_40 rfl ?_
  refine xg_if h (fun g6 h => ?_)
  refine x_iald (pc' := 42) dX12_goesNow_41 (by decide) rfl (xok_in g6) rfl ?_
  refine x_aload_n (pc' := 43) dX12_goesNow_42 rfl rfl ?_
  refine x_aload_n (pc' := 44) dX12_goesNow_43 rfl rfl ?_
  refine x_getr (pc' := 47) (t := 107) dX12_goesNow_44 f_X12_63 (by decide) rfl rfl rfl rfl ?_
  refine x_iload_n (pc' := 48) dX12_goesNow_47 rfl rfl ?_
  refine x_iconst (pc' := 49) (x := 4) dX12_goesNow_48 (by decide) rfl ?_
  refine x_iadd (pc' := 50) dX12_goesNow_49 rfl ?_
  refine xg_if h (fun g7 h => ?_)
  refine x_iald (pc' := 51) dX12_goesNow_50 (by decide) rfl (xok_in g7) rfl ?_
  refine xg_bI h (fun w9 hi9 hl9 r9 e8 h => ?_)
  refine x_callV (pc' := 54) (S := [.int (hi5 107 (Int32.toNatClampNeg (((5 : Int32) * (hi 90 38)) + (3 : Int32)))), .int w5, .int (hi 107 (Int32.toNatClampNeg (((5 : Int32) * (hi 90 38)) + (1 : Int32)))), .int (hi 107 (Int32.toNatClampNeg ((5 : Int32) * (hi 90 38)))), .ref 90]) (As := [.int (hi5 107 (Int32.toNatClampNeg (((5 : Int32) * (hi 90 38)) + (4 : Int32))))]) (b' := (0, 0, 0)) dX12_goesNow_51 l_X12_314 m_X12_placeNow rfl rfl (show 90 < 122 by decide) rfl (Nat.le_of_ble_eq_true rfl) (Nat.le_of_ble_eq_true rfl) (Nat.le_of_ble_eq_true rfl) (Nat.le_of_ble_eq_true rfl) (r_X12_placeNow _ _ _ _ _ e8) rfl ?_
  refine x_iload_n (pc' := 55) dX12_goesNow_54 rfl rfl ?_
  refine xg_bI h (fun w11 hi11 hl11 r11 e10 h => ?_)
  refine x_callV (pc' := 58) (S := []) (As := [.int (hi 107 (Int32.toNatClampNeg ((5 : Int32) * (hi 90 38)))), .int (hi 107 (Int32.toNatClampNeg (((5 : Int32) * (hi 90 38)) + (1 : Int32)))), .int w5, .int (hi5 107 (Int32.toNatClampNeg (((5 : Int32) * (hi 90 38)) + (3 : Int32)))), .int w9, .int v1]) (b' := (6, 0, 0)) dX12_goesNow_55 l_X12_277 m_X12_goes rfl rfl (show 90 < 122 by decide) rfl (Nat.le_of_ble_eq_true rfl) (Nat.le_of_ble_eq_true rfl) (Nat.le_of_ble_eq_true rfl) (Nat.le_of_ble_eq_true rfl) (r_X12_goes _ _ _ _ _ _ _ _ _ _ e10) rfl ?_
  obtain rfl := Option.some.inj h
  exact x_iret dX12_goesNow_58 rfl rfl (Nat.le_of_ble_eq_true rfl) rfl
def F_X12_refusalOf (v0 : Int32) : Option (Int32) := if v0 = (-9) then some (5 : Int32) else if v0 = (-8) then some (4 : Int32) else if v0 = (-7) then some (3 : Int32) else if v0 = (-6) then some (2 : Int32) else if v0 = (-5) then some (1 : Int32) else if v0 = (-4) then some (0 : Int32) else some (6 : Int32)
set_option maxRecDepth 20000 in
set_option maxHeartbeats 2000000 in
theorem r_X12_refusalOf (v0 : Int32) (H : xHp) (o : Int32) (h : F_X12_refusalOf v0 = some o) : xM yX12_refusalOf cX12_refusalOf 1 1 (0, 0, 0) z [.int v0] H (some (.int o), H) := by
  refine x_meth2 (C := RX12) (ini := false) (L := [some (.int v0)]) rfl (by decide) (fun h9 => by cases h9) (by decide) (Nat.le_of_ble_eq_true rfl) rfl ?_
  refine x_iload_n (pc' := 1) dX12_refusalOf_0 rfl rfl ?_
  refine xg_ite h (fun g1 h => ?_) (fun g1 h => ?_)
  · refine x_tabIn (tgt := 50) (off := 49) dX12_refusalOf_1 (by rw [g1]; decide) (by rw [g1]; decide) (by rw [g1]; rfl) (by decide) ?_
    refine x_iconst (pc' := 51) (x := 5) dX12_refusalOf_50 (by decide) rfl ?_
    obtain rfl := Option.some.inj h
    exact x_iret dX12_refusalOf_51 rfl rfl (Nat.le_of_ble_eq_true rfl) rfl
  · refine xg_ite h (fun g2 h => ?_) (fun g2 h => ?_)
    · refine x_tabIn (tgt := 48) (off := 47) dX12_refusalOf_1 (by rw [g2]; decide) (by rw [g2]; decide) (by rw [g2]; rfl) (by decide) ?_
      refine x_iconst (pc' := 49) (x := 4) dX12_refusalOf_48 (by decide) rfl ?_
      obtain rfl := Option.some.inj h
      exact x_iret dX12_refusalOf_49 rfl rfl (Nat.le_of_ble_eq_true rfl) rfl
    · refine xg_ite h (fun g3 h => ?_) (fun g3 h => ?_)
      · refine x_tabIn (tgt := 46) (off := 45) dX12_refusalOf_1 (by rw [g3]; decide) (by rw [g3]; decide) (by rw [g3]; rfl) (by decide) ?_
        refine x_iconst (pc' := 47) (x := 3) dX12_refusalOf_46 (by decide) rfl ?_
        obtain rfl := Option.some.inj h
        exact x_iret dX12_refusalOf_47 rfl rfl (Nat.le_of_ble_eq_true rfl) rfl
      · refine xg_ite h (fun g4 h => ?_) (fun g4 h => ?_)
        · refine x_tabIn (tgt := 44) (off := 43) dX12_refusalOf_1 (by rw [g4]; decide) (by rw [g4]; decide) (by rw [g4]; rfl) (by decide) ?_
          refine x_iconst (pc' := 45) (x := 2) dX12_refusalOf_44 (by decide) rfl ?_
          obtain rfl := Option.some.inj h
          exact x_iret dX12_refusalOf_45 rfl rfl (Nat.le_of_ble_eq_true rfl) rfl
        · refine xg_ite h (fun g5 h => ?_) (fun g5 h => ?_)
          · refine x_tabIn (tgt := 42) (off := 41) dX12_refusalOf_1 (by rw [g5]; decide) (by rw [g5]; decide) (by rw [g5]; rfl) (by decide) ?_
            refine x_iconst (pc' := 43) (x := 1) dX12_refusalOf_42 (by decide) rfl ?_
            obtain rfl := Option.some.inj h
            exact x_iret dX12_refusalOf_43 rfl rfl (Nat.le_of_ble_eq_true rfl) rfl
          · refine xg_ite h (fun g6 h => ?_) (fun g6 h => ?_)
            · refine x_tabIn (tgt := 40) (off := 39) dX12_refusalOf_1 (by rw [g6]; decide) (by rw [g6]; decide) (by rw [g6]; rfl) (by decide) ?_
              refine x_iconst (pc' := 41) (x := 0) dX12_refusalOf_40 (by decide) rfl ?_
              obtain rfl := Option.some.inj h
              exact x_iret dX12_refusalOf_41 rfl rfl (Nat.le_of_ble_eq_true rfl) rfl
            · refine x_tabOut (tgt := 52) dX12_refusalOf_1 (by have t0 := lv_neT g1 (a := (-9)) (by decide); have t1 := lv_neT g2 (a := (-8)) (by decide); have t2 := lv_neT g3 (a := (-7)) (by decide); have t3 := lv_neT g4 (a := (-6)) (by decide); have t4 := lv_neT g5 (a := (-5)) (by decide); have t5 := lv_neT g6 (a := (-4)) (by decide); omega) (by decide) ?_
              refine x_bipush (pc' := 54) (x := 6) dX12_refusalOf_52 (by decide) rfl ?_
              obtain rfl := Option.some.inj h
              exact x_iret dX12_refusalOf_54 rfl rfl (Nat.le_of_ble_eq_true rfl) rfl
def F_X12_leaves (hi : Nat → Nat → Int32) (hl : Nat → Nat → Int64) (r : xRr) : Option (xSt) := if (hi 90 39) = 0 then some ((xu hi 90 38 (hi 90 22)), hl, r) else if xok ((xu hi 90 39 ((hi 90 39) - (1 : Int32))) 90 39) 3 = true then xbI (F_X12_behind ((xu hi 90 39 ((hi 90 39) - (1 : Int32))) 117 (Int32.toNatClampNeg ((xu hi 90 39 ((hi 90 39) - (1 : Int32))) 90 39))) (xu hi 90 39 ((hi 90 39) - (1 : Int32))) hl r) (fun w4 hi4 hl4 r4 => some ((xu hi4 90 38 w4), hl4, r4)) else none
set_option maxRecDepth 20000 in
set_option maxHeartbeats 2000000 in
theorem r_X12_leaves (hi : Nat → Nat → Int32) (hl : Nat → Nat → Int64) (r : xRr) (o : xSt) (h : F_X12_leaves hi hl r = some o) : xM yX12_leaves cX12_leaves 1 0 (1, 0, 0) z [.ref 90] (xhp hi hl r) (xoV o) := by
  refine x_meth2 (C := RX12) (ini := false) (L := [some (.ref 90)]) rfl (by decide) (fun h9 => by cases h9) (by decide) (Nat.le_of_ble_eq_true rfl) rfl ?_
  refine x_aload_n (pc' := 1) dX12_leaves_0 rfl rfl ?_
  refine x_geti (pc' := 4) dX12_leaves_1 f_X12_305 (by decide) rfl rfl rfl ?_
  refine xg_ite h (fun g1 h => ?_) (fun g1 h => ?_)
  · refine x_if_ne (tgt := 16) (pc' := 7) dX12_leaves_4 (by decide) rfl (fun hn => absurd g1 hn) (fun _ => ?_)
    refine x_aload_n (pc' := 8) dX12_leaves_7 rfl rfl ?_
    refine x_aload_n (pc' := 9) dX12_leaves_8 rfl rfl ?_
    refine x_geti (pc' := 12) dX12_leaves_9 f_X12_172 (by decide) rfl rfl rfl ?_
    refine x_puti (pc' := 15) dX12_leaves_12 f_X12_308 (Or.inl rfl) (by decide) rfl rfl rfl ?_
    obtain rfl := Option.some.inj h
    exact x_vret dX12_leaves_15 rfl rfl (Nat.le_of_ble_eq_true rfl) rfl
  · refine x_if_ne (tgt := 16) (pc' := 7) dX12_leaves_4 (by decide) rfl (fun _ => ?_) (fun hn => absurd hn g1)
    refine x_aload_n (pc' := 17) dX12_leaves_16 rfl rfl ?_
    refine x_dup (pc' := 18) dX12_leaves_17 rfl rfl ?_
    refine x_geti (pc' := 21) dX12_leaves_18 f_X12_305 (by decide) rfl rfl rfl ?_
    refine x_iconst (pc' := 22) (x := 1) dX12_leaves_21 (by decide) rfl ?_
    refine x_isub (pc' := 23) dX12_leaves_22 rfl ?_
    refine x_puti (pc' := 26) dX12_leaves_23 f_X12_305 (Or.inl rfl) (by decide) rfl rfl rfl ?_
    refine x_aload_n (pc' := 27) dX12_leaves_26 rfl rfl ?_
    refine x_aload_n (pc' := 28) dX12_leaves_27 rfl rfl ?_
    refine x_aload_n (pc' := 29) dX12_leaves_28 rfl rfl ?_
    refine x_getr (pc' := 32) (t := 117) dX12_leaves_29 f_X12_94 (by decide) rfl rfl rfl rfl ?_
    refine x_aload_n (pc' := 33) dX12_leaves_32 rfl rfl ?_
    refine x_geti (pc' := 36) dX12_leaves_33 f_X12_305 (by decide) rfl rfl rfl ?_
    refine xg_if h (fun g2 h => ?_)
    refine x_iald (pc' := 37) dX12_leaves_36 (by decide) rfl (xok_in g2) rfl ?_
    refine xg_bI h (fun w4 hi4 hl4 r4 e3 h => ?_)
    refine x_callV (pc' := 40) (S := [.ref 90]) (As := [.int ((xu hi 90 39 ((hi 90 39) - (1 : Int32))) 117 (Int32.toNatClampNeg ((xu hi 90 39 ((hi 90 39) - (1 : Int32))) 90 39)))]) (b' := (0, 0, 0)) dX12_leaves_37 l_X12_311 m_X12_behind rfl rfl (show 90 < 122 by decide) rfl (Nat.le_of_ble_eq_true rfl) (Nat.le_of_ble_eq_true rfl) (Nat.le_of_ble_eq_true rfl) (Nat.le_of_ble_eq_true rfl) (r_X12_behind _ _ _ _ _ e3) rfl ?_
    refine x_puti (pc' := 43) dX12_leaves_40 f_X12_308 (Or.inl rfl) (by decide) rfl rfl rfl ?_
    obtain rfl := Option.some.inj h
    exact x_vret dX12_leaves_43 rfl rfl (Nat.le_of_ble_eq_true rfl) rfl
def F_X12_runsAll_92 (K2 : Int32 → (Nat → Nat → Int32) → (Nat → Nat → Int64) → xRr → Option (Int32 × xSt)) (v1 : Int32) (hi : Nat → Nat → Int32) (hl : Nat → Nat → Int64) (r : xRr) : Option (Int32 × xSt) := K2 v1 hi hl r
set_option maxRecDepth 20000 in
set_option maxHeartbeats 2000000 in
theorem r_X12_runsAll_92 (K2 : Int32 → (Nat → Nat → Int32) → (Nat → Nat → Int64) → xRr → Option (Int32 × xSt)) (hK2 : ∀ (v1 : Int32) (d2 : Option Value) (d3 : Option Value) (hi : Nat → Nat → Int32) (hl : Nat → Nat → Int64) (r : xRr) (o : Int32 × xSt), K2 v1 hi hl r = some o → xR (RX12, cX12_runsAll, 4, false, 1) (8, 0, 0) z 0 0 2 [some (.ref 90), some (.int v1), d2, d3] [] (xhp hi hl r) (xoI o)) (v1 : Int32) (d2 : Option Value) (d3 : Option Value) (hi : Nat → Nat → Int32) (hl : Nat → Nat → Int64) (r : xRr) (o : Int32 × xSt) (h : F_X12_runsAll_92 K2 v1 hi hl r = some o) : xR (RX12, cX12_runsAll, 4, false, 1) (8, 0, 0) z 0 0 92 [some (.ref 90), some (.int v1), d2, d3] [] (xhp hi hl r) (xoI o) := by
  refine x_goto (tgt := 2) dX12_runsAll_92 (by decide) ?_
  exact hK2 _ _ _ _ _ _ _ h
def F_X12_runsAll_82 (K2 : Int32 → (Nat → Nat → Int32) → (Nat → Nat → Int64) → xRr → Option (Int32 × xSt)) (v1 : Int32) (hi : Nat → Nat → Int32) (hl : Nat → Nat → Int64) (r : xRr) : Option (Int32 × xSt) := F_X12_runsAll_92 K2 v1 (xu hi 90 38 ((hi 90 38) + (1 : Int32))) hl r
set_option maxRecDepth 20000 in
set_option maxHeartbeats 2000000 in
theorem r_X12_runsAll_82 (K2 : Int32 → (Nat → Nat → Int32) → (Nat → Nat → Int64) → xRr → Option (Int32 × xSt)) (hK2 : ∀ (v1 : Int32) (d2 : Option Value) (d3 : Option Value) (hi : Nat → Nat → Int32) (hl : Nat → Nat → Int64) (r : xRr) (o : Int32 × xSt), K2 v1 hi hl r = some o → xR (RX12, cX12_runsAll, 4, false, 1) (8, 0, 0) z 0 0 2 [some (.ref 90), some (.int v1), d2, d3] [] (xhp hi hl r) (xoI o)) (v1 : Int32) (d2 : Option Value) (d3 : Option Value) (hi : Nat → Nat → Int32) (hl : Nat → Nat → Int64) (r : xRr) (o : Int32 × xSt) (h : F_X12_runsAll_82 K2 v1 hi hl r = some o) : xR (RX12, cX12_runsAll, 4, false, 1) (8, 0, 0) z 0 0 82 [some (.ref 90), some (.int v1), d2, d3] [] (xhp hi hl r) (xoI o) := by
  refine x_aload_n (pc' := 83) dX12_runsAll_82 rfl rfl ?_
  refine x_dup (pc' := 84) dX12_runsAll_83 rfl rfl ?_
  refine x_geti (pc' := 87) dX12_runsAll_84 f_X12_308 (by decide) rfl rfl rfl ?_
  refine x_iconst (pc' := 88) (x := 1) dX12_runsAll_87 (by decide) rfl ?_
  refine x_iadd (pc' := 89) dX12_runsAll_88 rfl ?_
  refine x_puti (pc' := 92) dX12_runsAll_89 f_X12_308 (Or.inl rfl) (by decide) rfl rfl rfl ?_
  exact r_X12_runsAll_92 K2 hK2 _ _ _ _ _ _ _ h
def F_X12_runsAll_61 (K2 : Int32 → (Nat → Nat → Int32) → (Nat → Nat → Int64) → xRr → Option (Int32 × xSt)) (v1 : Int32) (v2 : Int32) (v3 : Int32) (hi : Nat → Nat → Int32) (hl : Nat → Nat → Int64) (r : xRr) : Option (Int32 × xSt) := if v2 = 0 then F_X12_runsAll_82 K2 v1 hi hl r else if xok v3 7 = true then if (hi 108 (Int32.toNatClampNeg v3)) = (2 : Int32) then xbV (F_X12_leaves hi hl r) (fun hi5 hl5 r5 => F_X12_runsAll_92 K2 v1 hi5 hl5 r5) else F_X12_runsAll_82 K2 v1 hi hl r else none
set_option maxRecDepth 20000 in
set_option maxHeartbeats 2000000 in
theorem r_X12_runsAll_61 (K2 : Int32 → (Nat → Nat → Int32) → (Nat → Nat → Int64) → xRr → Option (Int32 × xSt)) (hK2 : ∀ (v1 : Int32) (d2 : Option Value) (d3 : Option Value) (hi : Nat → Nat → Int32) (hl : Nat → Nat → Int64) (r : xRr) (o : Int32 × xSt), K2 v1 hi hl r = some o → xR (RX12, cX12_runsAll, 4, false, 1) (8, 0, 0) z 0 0 2 [some (.ref 90), some (.int v1), d2, d3] [] (xhp hi hl r) (xoI o)) (v1 : Int32) (v2 : Int32) (v3 : Int32) (hi : Nat → Nat → Int32) (hl : Nat → Nat → Int64) (r : xRr) (o : Int32 × xSt) (h : F_X12_runsAll_61 K2 v1 v2 v3 hi hl r = some o) : xR (RX12, cX12_runsAll, 4, false, 1) (8, 0, 0) z 0 0 61 [some (.ref 90), some (.int v1), some (.int v2), some (.int v3)] [] (xhp hi hl r) (xoI o) := by
  refine x_iload_n (pc' := 62) dX12_runsAll_61 rfl rfl ?_
  refine xg_ite h (fun g1 h => ?_) (fun g1 h => ?_)
  · refine x_if_eq (tgt := 82) (pc' := 65) dX12_runsAll_62 (by decide) rfl (fun _ => ?_) (fun hn => absurd g1 hn)
    exact r_X12_runsAll_82 K2 hK2 _ _ _ _ _ _ _ h
  · refine x_if_eq (tgt := 82) (pc' := 65) dX12_runsAll_62 (by decide) rfl (fun hn => absurd hn g1) (fun _ => ?_)
    refine x_aload_n (pc' := 66) dX12_runsAll_65 rfl rfl ?_
    refine x_getr (pc' := 69) (t := 108) dX12_runsAll_66 f_X12_66 (by decide) rfl rfl rfl rfl ?_
    refine x_iload_n (pc' := 70) dX12_runsAll_69 rfl rfl ?_
    refine xg_if h (fun g2 h => ?_)
    refine x_iald (pc' := 71) dX12_runsAll_70 (by decide) rfl (xok_in g2) rfl ?_
    refine x_iconst (pc' := 72) (x := 2) dX12_runsAll_71 (by decide) rfl ?_
    refine xg_ite h (fun g3 h => ?_) (fun g3 h => ?_)
    · refine x_icmp_ne (tgt := 82) (pc' := 75) dX12_runsAll_72 (by decide) rfl (fun hn => absurd g3 hn) (fun _ => ?_)
      refine x_aload_n (pc' := 76) dX12_runsAll_75 rfl rfl ?_
      refine xg_bV h (fun hi5 hl5 r5 e4 h => ?_)
      refine x_callV (pc' := 79) (S := []) (As := []) (b' := (1, 0, 0)) dX12_runsAll_76 l_X12_328 m_X12_leaves rfl rfl (show 90 < 122 by decide) rfl (Nat.le_of_ble_eq_true rfl) (Nat.le_of_ble_eq_true rfl) (Nat.le_of_ble_eq_true rfl) (Nat.le_of_ble_eq_true rfl) (r_X12_leaves _ _ _ _ e4) rfl ?_
      refine x_goto (tgt := 92) dX12_runsAll_79 (by decide) ?_
      exact r_X12_runsAll_92 K2 hK2 _ _ _ _ _ _ _ h
    · refine x_icmp_ne (tgt := 82) (pc' := 75) dX12_runsAll_72 (by decide) rfl (fun _ => ?_) (fun hn => absurd hn g3)
      exact r_X12_runsAll_82 K2 hK2 _ _ _ _ _ _ _ h
def F_X12_runsAll_46 (K2 : Int32 → (Nat → Nat → Int32) → (Nat → Nat → Int64) → xRr → Option (Int32 × xSt)) (v1 : Int32) (v2 : Int32) (v3 : Int32) (hi : Nat → Nat → Int32) (hl : Nat → Nat → Int64) (r : xRr) : Option (Int32 × xSt) := if v2 = 0 then F_X12_runsAll_61 K2 v1 v2 v3 hi hl r else if xok v3 7 = true then if (hi 108 (Int32.toNatClampNeg v3)) = 0 then some (v2, hi, hl, r) else F_X12_runsAll_61 K2 v1 v2 v3 hi hl r else none
set_option maxRecDepth 20000 in
set_option maxHeartbeats 2000000 in
theorem r_X12_runsAll_46 (K2 : Int32 → (Nat → Nat → Int32) → (Nat → Nat → Int64) → xRr → Option (Int32 × xSt)) (hK2 : ∀ (v1 : Int32) (d2 : Option Value) (d3 : Option Value) (hi : Nat → Nat → Int32) (hl : Nat → Nat → Int64) (r : xRr) (o : Int32 × xSt), K2 v1 hi hl r = some o → xR (RX12, cX12_runsAll, 4, false, 1) (8, 0, 0) z 0 0 2 [some (.ref 90), some (.int v1), d2, d3] [] (xhp hi hl r) (xoI o)) (v1 : Int32) (v2 : Int32) (v3 : Int32) (hi : Nat → Nat → Int32) (hl : Nat → Nat → Int64) (r : xRr) (o : Int32 × xSt) (h : F_X12_runsAll_46 K2 v1 v2 v3 hi hl r = some o) : xR (RX12, cX12_runsAll, 4, false, 1) (8, 0, 0) z 0 0 46 [some (.ref 90), some (.int v1), some (.int v2), some (.int v3)] [] (xhp hi hl r) (xoI o) := by
  refine x_iload_n (pc' := 47) dX12_runsAll_46 rfl rfl ?_
  refine xg_ite h (fun g1 h => ?_) (fun g1 h => ?_)
  · refine x_if_eq (tgt := 61) (pc' := 50) dX12_runsAll_47 (by decide) rfl (fun _ => ?_) (fun hn => absurd g1 hn)
    exact r_X12_runsAll_61 K2 hK2 _ _ _ _ _ _ _ h
  · refine x_if_eq (tgt := 61) (pc' := 50) dX12_runsAll_47 (by decide) rfl (fun hn => absurd hn g1) (fun _ => ?_)
    refine x_aload_n (pc' := 51) dX12_runsAll_50 rfl rfl ?_
    refine x_getr (pc' := 54) (t := 108) dX12_runsAll_51 f_X12_66 (by decide) rfl rfl rfl rfl ?_
    refine x_iload_n (pc' := 55) dX12_runsAll_54 rfl rfl ?_
    refine xg_if h (fun g2 h => ?_)
    refine x_iald (pc' := 56) dX12_runsAll_55 (by decide) rfl (xok_in g2) rfl ?_
    refine xg_ite h (fun g3 h => ?_) (fun g3 h => ?_)
    · refine x_if_ne (tgt := 61) (pc' := 59) dX12_runsAll_56 (by decide) rfl (fun hn => absurd g3 hn) (fun _ => ?_)
      refine x_iload_n (pc' := 60) dX12_runsAll_59 rfl rfl ?_
      obtain rfl := Option.some.inj h
      exact x_iret dX12_runsAll_60 rfl rfl (Nat.le_of_ble_eq_true rfl) rfl
    · refine x_if_ne (tgt := 61) (pc' := 59) dX12_runsAll_56 (by decide) rfl (fun _ => ?_) (fun hn => absurd hn g3)
      exact r_X12_runsAll_61 K2 hK2 _ _ _ _ _ _ _ h
def F_X12_runsAll_2 : Nat → Int32 → (Nat → Nat → Int32) → (Nat → Nat → Int64) → xRr → Option (Int32 × xSt)
  | 0, _, _, _, _ => none
  | n + 1, v1, hi, hl, r => xbI (F_X12_isStep hi hl r) (fun w2 hi2 hl2 r2 => if w2 = 0 then some (v1, hi2, hl2, r2) else if v1 = (60 : Int32) then some (((-11) : Int32), hi2, hl2, r2) else xbI (F_X12_goesNow (0 : Int32) hi2 hl2 r2) (fun w6 hi6 hl6 r6 => xbP (F_X12_refusalOf w6) (fun w8 => if w6 = 0 then F_X12_runsAll_46 (F_X12_runsAll_2 n) (v1 + (1)) w6 w8 hi6 hl6 r6 else if xok w8 7 = true then F_X12_runsAll_46 (F_X12_runsAll_2 n) (v1 + (1)) w6 w8 (xu hi6 109 (Int32.toNatClampNeg w8) ((hi6 109 (Int32.toNatClampNeg w8)) + (1 : Int32))) hl6 r6 else none)))
set_option maxRecDepth 20000 in
set_option maxHeartbeats 2000000 in
theorem r_X12_runsAll_2 : ∀ (n : Nat) (v1 : Int32) (d2 : Option Value) (d3 : Option Value) (hi : Nat → Nat → Int32) (hl : Nat → Nat → Int64) (r : xRr) (o : Int32 × xSt), F_X12_runsAll_2 n v1 hi hl r = some o → xR (RX12, cX12_runsAll, 4, false, 1) (8, 0, 0) z 0 0 2 [some (.ref 90), some (.int v1), d2, d3] [] (xhp hi hl r) (xoI o) := by
  intro n
  induction n with
  | zero =>
    intro v1 d2 d3 hi hl r o h
    have h : none = some o := h
    cases h
  | succ n ih =>
    intro v1 d2 d3 hi hl r o h
    refine x_aload_n (pc' := 3) dX12_runsAll_2 rfl rfl ?_
    refine xg_bI h (fun w2 hi2 hl2 r2 e1 h => ?_)
    refine x_callV (pc' := 6) (S := []) (As := []) (b' := (1, 0, 0)) dX12_runsAll_3 l_X12_317 m_X12_isStep rfl rfl (show 90 < 122 by decide) rfl (Nat.le_of_ble_eq_true rfl) (Nat.le_of_ble_eq_true rfl) (Nat.le_of_ble_eq_true rfl) (Nat.le_of_ble_eq_true rfl) (r_X12_isStep _ _ _ _ e1) rfl ?_
    refine xg_ite h (fun g3 h => ?_) (fun g3 h => ?_)
    · refine x_if_eq (tgt := 95) (pc' := 9) dX12_runsAll_6 (by decide) rfl (fun _ => ?_) (fun hn => absurd g3 hn)
      refine x_iload_n (pc' := 96) dX12_runsAll_95 rfl rfl ?_
      obtain rfl := Option.some.inj h
      exact x_iret dX12_runsAll_96 rfl rfl (Nat.le_of_ble_eq_true rfl) rfl
    · refine x_if_eq (tgt := 95) (pc' := 9) dX12_runsAll_6 (by decide) rfl (fun hn => absurd hn g3) (fun _ => ?_)
      refine x_iload_n (pc' := 10) dX12_runsAll_9 rfl rfl ?_
      refine x_bipush (pc' := 12) (x := 60) dX12_runsAll_10 (by decide) rfl ?_
      refine xg_ite h (fun g4 h => ?_) (fun g4 h => ?_)
      · refine x_icmp_ne (tgt := 18) (pc' := 15) dX12_runsAll_12 (by decide) rfl (fun hn => absurd g4 hn) (fun _ => ?_)
        refine x_bipush (pc' := 17) (x := (-11)) dX12_runsAll_15 (by decide) rfl ?_
        obtain rfl := Option.some.inj h
        exact x_iret dX12_runsAll_17 rfl rfl (Nat.le_of_ble_eq_true rfl) rfl
      · refine x_icmp_ne (tgt := 18) (pc' := 15) dX12_runsAll_12 (by decide) rfl (fun _ => ?_) (fun hn => absurd hn g4)
        refine x_iinc (pc' := 21) (v := (v1 + (1))) (L' := [some (.ref 90), some (.int (v1 + (1))), d2, d3]) dX12_runsAll_18 rfl rfl (Nat.le_of_ble_eq_true rfl) rfl rfl ?_
        refine x_aload_n (pc' := 22) dX12_runsAll_21 rfl rfl ?_
        refine x_iconst (pc' := 23) (x := 0) dX12_runsAll_22 (by decide) rfl ?_
        refine xg_bI h (fun w6 hi6 hl6 r6 e5 h => ?_)
        refine x_callV (pc' := 26) (S := []) (As := [.int (0 : Int32)]) (b' := (7, 0, 0)) dX12_runsAll_23 l_X12_321 m_X12_goesNow rfl rfl (show 90 < 122 by decide) rfl (Nat.le_of_ble_eq_true rfl) (Nat.le_of_ble_eq_true rfl) (Nat.le_of_ble_eq_true rfl) (Nat.le_of_ble_eq_true rfl) (r_X12_goesNow _ _ _ _ _ e5) rfl ?_
        refine x_istore_n (pc' := 27) (L' := [some (.ref 90), some (.int (v1 + (1))), some (.int w6), d3]) dX12_runsAll_26 (Nat.le_of_ble_eq_true rfl) rfl rfl ?_
        refine x_iload_n (pc' := 28) dX12_runsAll_27 rfl rfl ?_
        refine xg_bP h (fun w8 e7 h => ?_)
        refine x_callS (pc' := 31) (S := []) (As := [.int w6]) (b' := (0, 0, 0)) dX12_runsAll_28 l_X12_325 m_X12_refusalOf rfl rfl (Nat.le_of_ble_eq_true rfl) (Nat.le_of_ble_eq_true rfl) (Nat.le_of_ble_eq_true rfl) (Nat.le_of_ble_eq_true rfl) (r_X12_refusalOf _ _ _ e7) rfl ?_
        refine x_istore_n (pc' := 32) (L' := [some (.ref 90), some (.int (v1 + (1))), some (.int w6), some (.int w8)]) dX12_runsAll_31 (Nat.le_of_ble_eq_true rfl) rfl rfl ?_
        refine x_iload_n (pc' := 33) dX12_runsAll_32 rfl rfl ?_
        refine xg_ite h (fun g9 h => ?_) (fun g9 h => ?_)
        · refine x_if_eq (tgt := 46) (pc' := 36) dX12_runsAll_33 (by decide) rfl (fun _ => ?_) (fun hn => absurd g9 hn)
          exact r_X12_runsAll_46 (F_X12_runsAll_2 n) ih _ _ _ _ _ _ _ h
        · refine x_if_eq (tgt := 46) (pc' := 36) dX12_runsAll_33 (by decide) rfl (fun hn => absurd hn g9) (fun _ => ?_)
          refine x_aload_n (pc' := 37) dX12_runsAll_36 rfl rfl ?_
          refine x_getr (pc' := 40) (t := 109) dX12_runsAll_37 f_X12_69 (by decide) rfl rfl rfl rfl ?_
          refine x_iload_n (pc' := 41) dX12_runsAll_40 rfl rfl ?_
          refine x_dup2 (pc' := 42) dX12_runsAll_41 rfl rfl rfl ?_
          refine xg_if h (fun g10 h => ?_)
          refine x_iald (pc' := 43) dX12_runsAll_42 (by decide) rfl (xok_in g10) rfl ?_
          refine x_iconst (pc' := 44) (x := 1) dX12_runsAll_43 (by decide) rfl ?_
          refine x_iadd (pc' := 45) dX12_runsAll_44 rfl ?_
          refine x_iast (pc' := 46) dX12_runsAll_45 (by decide) rfl (xok_in g10) rfl ?_
          exact r_X12_runsAll_46 (F_X12_runsAll_2 n) ih _ _ _ _ _ _ _ h
def F_X12_runsAll (hi : Nat → Nat → Int32) (hl : Nat → Nat → Int64) (r : xRr) : Option (Int32 × xSt) := F_X12_runsAll_2 1000000 (0 : Int32) hi hl r
set_option maxRecDepth 20000 in
set_option maxHeartbeats 2000000 in
theorem r_X12_runsAll (hi : Nat → Nat → Int32) (hl : Nat → Nat → Int64) (r : xRr) (o : Int32 × xSt) (h : F_X12_runsAll hi hl r = some o) : xM yX12_runsAll cX12_runsAll 4 1 (8, 0, 0) z [.ref 90] (xhp hi hl r) (xoI o) := by
  refine x_meth2 (C := RX12) (ini := false) (L := [some (.ref 90), none, none, none]) rfl (by decide) (fun h9 => by cases h9) (by decide) (Nat.le_of_ble_eq_true rfl) rfl ?_
  refine x_iconst (pc' := 1) (x := 0) dX12_runsAll_0 (by decide) rfl ?_
  refine x_istore_n (pc' := 2) (L' := [some (.ref 90), some (.int (0 : Int32)), none, none]) dX12_runsAll_1 (Nat.le_of_ble_eq_true rfl) rfl rfl ?_
  exact r_X12_runsAll_2 1000000 _ _ _ _ _ _ _ h
def F_X12_runs_17 : Nat → Int32 → (Nat → Nat → Int32) → (Nat → Nat → Int64) → xRr → Option (Int32 × xSt)
  | 0, _, _, _, _ => none
  | n + 1, v1, hi, hl, r => if (7 : Int32) ≤ v1 then xbV (F_X12_copy 113 114 (0 : Int32) (xu (xu hi 90 38 (0 : Int32)) 90 39 (0 : Int32)) hl r) (fun hi3 hl3 r3 => xbI (F_X12_runsAll hi3 hl3 r3) (fun w5 hi5 hl5 r5 => if 0 ≤ w5 then xbV (F_X12_know hi5 hl5 r5) (fun hi8 hl8 r8 => some (w5, hi8, hl8, r8)) else xbV (F_X12_copyBack 113 114 (0 : Int32) (72 : Int32) hi5 hl5 r5) (fun hi10 hl10 r10 => some (w5, hi10, hl10, r10)))) else if xok v1 7 = true then (F_X12_runs_17 n) (v1 + (1)) (xu hi 109 (Int32.toNatClampNeg v1) (0 : Int32)) hl r else none
set_option maxRecDepth 20000 in
set_option maxHeartbeats 2000000 in
theorem r_X12_runs_17 : ∀ (n : Nat) (v1 : Int32) (hi : Nat → Nat → Int32) (hl : Nat → Nat → Int64) (r : xRr) (o : Int32 × xSt), F_X12_runs_17 n v1 hi hl r = some o → xR (RX12, cX12_runs, 2, false, 1) (9, 0, 0) z 0 0 17 [some (.ref 90), some (.int v1)] [] (xhp hi hl r) (xoI o) := by
  intro n
  induction n with
  | zero =>
    intro v1 hi hl r o h
    have h : none = some o := h
    cases h
  | succ n ih =>
    intro v1 hi hl r o h
    refine x_iload_n (pc' := 18) dX12_runs_17 rfl rfl ?_
    refine x_bipush (pc' := 20) (x := 7) dX12_runs_18 (by decide) rfl ?_
    refine xg_ite h (fun g1 h => ?_) (fun g1 h => ?_)
    · refine x_icmp_ge (tgt := 36) (pc' := 23) dX12_runs_20 (by decide) rfl (fun _ => ?_) (fun hn => absurd g1 hn)
      refine x_aload_n (pc' := 37) dX12_runs_36 rfl rfl ?_
      refine x_iconst (pc' := 38) (x := 0) dX12_runs_37 (by decide) rfl ?_
      refine x_puti (pc' := 41) dX12_runs_38 f_X12_308 (Or.inl rfl) (by decide) rfl rfl rfl ?_
      refine x_aload_n (pc' := 42) dX12_runs_41 rfl rfl ?_
      refine x_iconst (pc' := 43) (x := 0) dX12_runs_42 (by decide) rfl ?_
      refine x_puti (pc' := 46) dX12_runs_43 f_X12_305 (Or.inl rfl) (by decide) rfl rfl rfl ?_
      refine x_aload_n (pc' := 47) dX12_runs_46 rfl rfl ?_
      refine x_aload_n (pc' := 48) dX12_runs_47 rfl rfl ?_
      refine x_getr (pc' := 51) (t := 113) dX12_runs_48 f_X12_82 (by decide) rfl rfl rfl rfl ?_
      refine x_aload_n (pc' := 52) dX12_runs_51 rfl rfl ?_
      refine x_getr (pc' := 55) (t := 114) dX12_runs_52 f_X12_85 (by decide) rfl rfl rfl rfl ?_
      refine x_iconst (pc' := 56) (x := 0) dX12_runs_55 (by decide) rfl ?_
      refine xg_bV h (fun hi3 hl3 r3 e2 h => ?_)
      refine x_callV (pc' := 59) (S := []) (As := [.ref 113, .ref 114, .int (0 : Int32)]) (b' := (0, 0, 0)) dX12_runs_56 l_X12_248 m_X12_copy rfl rfl (show 90 < 122 by decide) rfl (Nat.le_of_ble_eq_true rfl) (Nat.le_of_ble_eq_true rfl) (Nat.le_of_ble_eq_true rfl) (Nat.le_of_ble_eq_true rfl) (r_X12_copy _ _ _ _ _ _ _ e2) rfl ?_
      refine x_aload_n (pc' := 60) dX12_runs_59 rfl rfl ?_
      refine xg_bI h (fun w5 hi5 hl5 r5 e4 h => ?_)
      refine x_callV (pc' := 63) (S := []) (As := []) (b' := (8, 0, 0)) dX12_runs_60 l_X12_331 m_X12_runsAll rfl rfl (show 90 < 122 by decide) rfl (Nat.le_of_ble_eq_true rfl) (Nat.le_of_ble_eq_true rfl) (Nat.le_of_ble_eq_true rfl) (Nat.le_of_ble_eq_true rfl) (r_X12_runsAll _ _ _ _ e4) rfl ?_
      refine x_istore_n (pc' := 64) (L' := [some (.ref 90), some (.int w5)]) dX12_runs_63 (Nat.le_of_ble_eq_true rfl) rfl rfl ?_
      refine x_iload_n (pc' := 65) dX12_runs_64 rfl rfl ?_
      refine xg_ite h (fun g6 h => ?_) (fun g6 h => ?_)
      · refine x_if_ge (tgt := 86) (pc' := 68) dX12_runs_65 (by decide) rfl (fun _ => ?_) (fun hn => absurd g6 hn)
        refine x_aload_n (pc' := 87) dX12_runs_86 rfl rfl ?_
        refine xg_bV h (fun hi8 hl8 r8 e7 h => ?_)
        refine x_callV (pc' := 90) (S := []) (As := []) (b' := (0, 0, 0)) dX12_runs_87 l_X12_252 m_X12_know rfl rfl (show 90 < 122 by decide) rfl (Nat.le_of_ble_eq_true rfl) (Nat.le_of_ble_eq_true rfl) (Nat.le_of_ble_eq_true rfl) (Nat.le_of_ble_eq_true rfl) (r_X12_know _ _ _ _ e7) rfl ?_
        refine x_iload_n (pc' := 91) dX12_runs_90 rfl rfl ?_
        obtain rfl := Option.some.inj h
        exact x_iret dX12_runs_91 rfl rfl (Nat.le_of_ble_eq_true rfl) rfl
      · refine x_if_ge (tgt := 86) (pc' := 68) dX12_runs_65 (by decide) rfl (fun hn => absurd hn g6) (fun _ => ?_)
        refine x_aload_n (pc' := 69) dX12_runs_68 rfl rfl ?_
        refine x_aload_n (pc' := 70) dX12_runs_69 rfl rfl ?_
        refine x_getr (pc' := 73) (t := 113) dX12_runs_70 f_X12_82 (by decide) rfl rfl rfl rfl ?_
        refine x_aload_n (pc' := 74) dX12_runs_73 rfl rfl ?_
        refine x_getr (pc' := 77) (t := 114) dX12_runs_74 f_X12_85 (by decide) rfl rfl rfl rfl ?_
        refine x_iconst (pc' := 78) (x := 0) dX12_runs_77 (by decide) rfl ?_
        refine x_bipush (pc' := 80) (x := 72) dX12_runs_78 (by decide) rfl ?_
        refine xg_bV h (fun hi10 hl10 r10 e9 h => ?_)
        refine x_callV (pc' := 83) (S := []) (As := [.ref 113, .ref 114, .int (0 : Int32), .int (72 : Int32)]) (b' := (0, 0, 0)) dX12_runs_80 l_X12_290 m_X12_copyBack rfl rfl (show 90 < 122 by decide) rfl (Nat.le_of_ble_eq_true rfl) (Nat.le_of_ble_eq_true rfl) (Nat.le_of_ble_eq_true rfl) (Nat.le_of_ble_eq_true rfl) (r_X12_copyBack _ _ _ _ _ _ _ _ e9) rfl ?_
        refine x_goto (tgt := 90) dX12_runs_83 (by decide) ?_
        refine x_iload_n (pc' := 91) dX12_runs_90 rfl rfl ?_
        obtain rfl := Option.some.inj h
        exact x_iret dX12_runs_91 rfl rfl (Nat.le_of_ble_eq_true rfl) rfl
    · refine x_icmp_ge (tgt := 36) (pc' := 23) dX12_runs_20 (by decide) rfl (fun hn => absurd hn g1) (fun _ => ?_)
      refine x_aload_n (pc' := 24) dX12_runs_23 rfl rfl ?_
      refine x_getr (pc' := 27) (t := 109) dX12_runs_24 f_X12_69 (by decide) rfl rfl rfl rfl ?_
      refine x_iload_n (pc' := 28) dX12_runs_27 rfl rfl ?_
      refine x_iconst (pc' := 29) (x := 0) dX12_runs_28 (by decide) rfl ?_
      refine xg_if h (fun g11 h => ?_)
      refine x_iast (pc' := 30) dX12_runs_29 (by decide) rfl (xok_in g11) rfl ?_
      refine x_iinc (pc' := 33) (v := (v1 + (1))) (L' := [some (.ref 90), some (.int (v1 + (1)))]) dX12_runs_30 rfl rfl (Nat.le_of_ble_eq_true rfl) rfl rfl ?_
      refine x_goto (tgt := 17) dX12_runs_33 (by decide) ?_
      exact ih _ _ _ _ _ h
def F_X12_runs (hi : Nat → Nat → Int32) (hl : Nat → Nat → Int64) (r : xRr) : Option (Int32 × xSt) := xbI (F_X12_open (xu hi 90 0 (0 : Int32)) hl r) (fun w2 hi2 hl2 r2 => if w2 ≤ 0 then F_X12_runs_17 1000000 (0 : Int32) hi2 hl2 r2 else some (((-2) : Int32), hi2, hl2, r2))
set_option maxRecDepth 20000 in
set_option maxHeartbeats 2000000 in
theorem r_X12_runs (hi : Nat → Nat → Int32) (hl : Nat → Nat → Int64) (r : xRr) (o : Int32 × xSt) (h : F_X12_runs hi hl r = some o) : xM yX12_runs cX12_runs 2 1 (9, 0, 0) z [.ref 90] (xhp hi hl r) (xoI o) := by
  refine x_meth2 (C := RX12) (ini := false) (L := [some (.ref 90), none]) rfl (by decide) (fun h9 => by cases h9) (by decide) (Nat.le_of_ble_eq_true rfl) rfl ?_
  refine x_aload_n (pc' := 1) dX12_runs_0 rfl rfl ?_
  refine x_iconst (pc' := 2) (x := 0) dX12_runs_1 (by decide) rfl ?_
  refine x_puti (pc' := 5) dX12_runs_2 f_X12_109 (Or.inl rfl) (by decide) rfl rfl rfl ?_
  refine x_aload_n (pc' := 6) dX12_runs_5 rfl rfl ?_
  refine xg_bI h (fun w2 hi2 hl2 r2 e1 h => ?_)
  refine x_callV (pc' := 9) (S := []) (As := []) (b' := (0, 0, 0)) dX12_runs_6 l_X12_300 m_X12_open rfl rfl (show 90 < 122 by decide) rfl (Nat.le_of_ble_eq_true rfl) (Nat.le_of_ble_eq_true rfl) (Nat.le_of_ble_eq_true rfl) (Nat.le_of_ble_eq_true rfl) (r_X12_open _ _ _ _ e1) rfl ?_
  refine xg_ite h (fun g3 h => ?_) (fun g3 h => ?_)
  · refine x_if_le (tgt := 15) (pc' := 12) dX12_runs_9 (by decide) rfl (fun _ => ?_) (fun hn => absurd g3 hn)
    refine x_iconst (pc' := 16) (x := 0) dX12_runs_15 (by decide) rfl ?_
    refine x_istore_n (pc' := 17) (L' := [some (.ref 90), some (.int (0 : Int32))]) dX12_runs_16 (Nat.le_of_ble_eq_true rfl) rfl rfl ?_
    exact r_X12_runs_17 1000000 _ _ _ _ _ h
  · refine x_if_le (tgt := 15) (pc' := 12) dX12_runs_9 (by decide) rfl (fun hn => absurd hn g3) (fun _ => ?_)
    refine x_bipush (pc' := 14) (x := (-2)) dX12_runs_12 (by decide) rfl ?_
    obtain rfl := Option.some.inj h
    exact x_iret dX12_runs_14 rfl rfl (Nat.le_of_ble_eq_true rfl) rfl
def F_X12_line (v1 : Int32) (v2 : Int32) (hi : Nat → Nat → Int32) (hl : Nat → Nat → Int64) (r : xRr) : Option (Int32 × xSt) := xbP (F_X12_in (Int32.toInt64 v1) (0 : Int64) (Int32.toInt64 (((xu hi 90 0 (0 : Int32)) 90 22) - (1 : Int32)))) (fun w2 => if w2 = 0 then some (((-1) : Int32), (xu hi 90 0 (0 : Int32)), hl, r) else xbP (F_X12_in (Int32.toInt64 v2) (0 : Int64) (4 : Int64)) (fun w5 => if w5 = 0 then some (((-1) : Int32), (xu hi 90 0 (0 : Int32)), hl, r) else if xok (((5 : Int32) * v1) + v2) 80 = true then some (((xu hi 90 0 (0 : Int32)) 107 (Int32.toNatClampNeg (((5 : Int32) * v1) + v2))), (xu hi 90 0 (0 : Int32)), hl, r) else none))
set_option maxRecDepth 20000 in
set_option maxHeartbeats 2000000 in
theorem r_X12_line (v1 : Int32) (v2 : Int32) (hi : Nat → Nat → Int32) (hl : Nat → Nat → Int64) (r : xRr) (o : Int32 × xSt) (h : F_X12_line v1 v2 hi hl r = some o) : xM yX12_line cX12_line 3 1 (1, 0, 0) z [.ref 90, .int v1, .int v2] (xhp hi hl r) (xoI o) := by
  refine x_meth2 (C := RX12) (ini := false) (L := [some (.ref 90), some (.int v1), some (.int v2)]) rfl (by decide) (fun h9 => by cases h9) (by decide) (Nat.le_of_ble_eq_true rfl) rfl ?_
  refine x_aload_n (pc' := 1) dX12_line_0 rfl rfl ?_
  refine x_iconst (pc' := 2) (x := 0) dX12_line_1 (by decide) rfl ?_
  refine x_puti (pc' := 5) dX12_line_2 f_X12_109 (Or.inl rfl) (by decide) rfl rfl rfl ?_
  refine x_iload_n (pc' := 6) dX12_line_5 rfl rfl ?_
  refine x_i2l (pc' := 7) dX12_line_6 rfl ?_
  refine x_lconst (pc' := 8) (x := 0) dX12_line_7 (by decide) rfl ?_
  refine x_aload_n (pc' := 9) dX12_line_8 rfl rfl ?_
  refine x_geti (pc' := 12) dX12_line_9 f_X12_172 (by decide) rfl rfl rfl ?_
  refine x_iconst (pc' := 13) (x := 1) dX12_line_12 (by decide) rfl ?_
  refine x_isub (pc' := 14) dX12_line_13 rfl ?_
  refine x_i2l (pc' := 15) dX12_line_14 rfl ?_
  refine xg_bP h (fun w2 e1 h => ?_)
  refine x_callS (pc' := 18) (S := []) (As := [.long (Int32.toInt64 v1), .long (0 : Int64), .long (Int32.toInt64 (((xu hi 90 0 (0 : Int32)) 90 22) - (1 : Int32)))]) (b' := (0, 0, 0)) dX12_line_15 l_X12_118 m_X12_in rfl rfl (Nat.le_of_ble_eq_true rfl) (Nat.le_of_ble_eq_true rfl) (Nat.le_of_ble_eq_true rfl) (Nat.le_of_ble_eq_true rfl) (r_X12_in _ _ _ _ _ e1) rfl ?_
  refine xg_ite h (fun g3 h => ?_) (fun g3 h => ?_)
  · refine x_if_eq (tgt := 46) (pc' := 21) dX12_line_18 (by decide) rfl (fun _ => ?_) (fun hn => absurd g3 hn)
    refine x_iconst (pc' := 47) (x := (-1)) dX12_line_46 (by decide) rfl ?_
    obtain rfl := Option.some.inj h
    exact x_iret dX12_line_47 rfl rfl (Nat.le_of_ble_eq_true rfl) rfl
  · refine x_if_eq (tgt := 46) (pc' := 21) dX12_line_18 (by decide) rfl (fun hn => absurd hn g3) (fun _ => ?_)
    refine x_iload_n (pc' := 22) dX12_line_21 rfl rfl ?_
    refine x_i2l (pc' := 23) dX12_line_22 rfl ?_
    refine x_lconst (pc' := 24) (x := 0) dX12_line_23 (by decide) rfl ?_
    refine x_ldc2 (pc' := 27) dX12_line_24 k_X12_275 rfl ?_
    refine xg_bP h (fun w5 e4 h => ?_)
    refine x_callS (pc' := 30) (S := []) (As := [.long (Int32.toInt64 v2), .long (0 : Int64), .long (4 : Int64)]) (b' := (0, 0, 0)) dX12_line_27 l_X12_118 m_X12_in rfl rfl (Nat.le_of_ble_eq_true rfl) (Nat.le_of_ble_eq_true rfl) (Nat.le_of_ble_eq_true rfl) (Nat.le_of_ble_eq_true rfl) (r_X12_in _ _ _ _ _ e4) rfl ?_
    refine xg_ite h (fun g6 h => ?_) (fun g6 h => ?_)
    · refine x_if_eq (tgt := 46) (pc' := 33) dX12_line_30 (by decide) rfl (fun _ => ?_) (fun hn => absurd g6 hn)
      refine x_iconst (pc' := 47) (x := (-1)) dX12_line_46 (by decide) rfl ?_
      obtain rfl := Option.some.inj h
      exact x_iret dX12_line_47 rfl rfl (Nat.le_of_ble_eq_true rfl) rfl
    · refine x_if_eq (tgt := 46) (pc' := 33) dX12_line_30 (by decide) rfl (fun hn => absurd hn g6) (fun _ => ?_)
      refine x_aload_n (pc' := 34) dX12_line_33 rfl rfl ?_
      refine x_getr (pc' := 37) (t := 107) dX12_line_34 f_X12_63 (by decide) rfl rfl rfl rfl ?_
      refine x_iconst (pc' := 38) (x := 5) dX12_line_37 (by decide) rfl ?_
      refine x_iload_n (pc' := 39) dX12_line_38 rfl rfl ?_
      refine x_imul (pc' := 40) dX12_line_39 rfl ?_
      refine x_iload_n (pc' := 41) dX12_line_40 rfl rfl ?_
      refine x_iadd (pc' := 42) dX12_line_41 rfl ?_
      refine xg_if h (fun g7 h => ?_)
      refine x_iald (pc' := 43) dX12_line_42 (by decide) rfl (xok_in g7) rfl ?_
      refine x_goto (tgt := 47) dX12_line_43 (by decide) ?_
      obtain rfl := Option.some.inj h
      exact x_iret dX12_line_47 rfl rfl (Nat.le_of_ble_eq_true rfl) rfl
def F_X12_met (v1 : Int32) (hi : Nat → Nat → Int32) (hl : Nat → Nat → Int64) (r : xRr) : Option (Int32 × xSt) := xbP (F_X12_in (Int32.toInt64 v1) (0 : Int64) (6 : Int64)) (fun w2 => if w2 = 0 then some (((-1) : Int32), (xu hi 90 0 (0 : Int32)), hl, r) else if xok v1 7 = true then some (((xu hi 90 0 (0 : Int32)) 109 (Int32.toNatClampNeg v1)), (xu hi 90 0 (0 : Int32)), hl, r) else none)
set_option maxRecDepth 20000 in
set_option maxHeartbeats 2000000 in
theorem r_X12_met (v1 : Int32) (hi : Nat → Nat → Int32) (hl : Nat → Nat → Int64) (r : xRr) (o : Int32 × xSt) (h : F_X12_met v1 hi hl r = some o) : xM yX12_met cX12_met 2 1 (1, 0, 0) z [.ref 90, .int v1] (xhp hi hl r) (xoI o) := by
  refine x_meth2 (C := RX12) (ini := false) (L := [some (.ref 90), some (.int v1)]) rfl (by decide) (fun h9 => by cases h9) (by decide) (Nat.le_of_ble_eq_true rfl) rfl ?_
  refine x_aload_n (pc' := 1) dX12_met_0 rfl rfl ?_
  refine x_iconst (pc' := 2) (x := 0) dX12_met_1 (by decide) rfl ?_
  refine x_puti (pc' := 5) dX12_met_2 f_X12_109 (Or.inl rfl) (by decide) rfl rfl rfl ?_
  refine x_iload_n (pc' := 6) dX12_met_5 rfl rfl ?_
  refine x_i2l (pc' := 7) dX12_met_6 rfl ?_
  refine x_lconst (pc' := 8) (x := 0) dX12_met_7 (by decide) rfl ?_
  refine x_ldc2 (pc' := 11) dX12_met_8 k_X12_303 rfl ?_
  refine xg_bP h (fun w2 e1 h => ?_)
  refine x_callS (pc' := 14) (S := []) (As := [.long (Int32.toInt64 v1), .long (0 : Int64), .long (6 : Int64)]) (b' := (0, 0, 0)) dX12_met_11 l_X12_118 m_X12_in rfl rfl (Nat.le_of_ble_eq_true rfl) (Nat.le_of_ble_eq_true rfl) (Nat.le_of_ble_eq_true rfl) (Nat.le_of_ble_eq_true rfl) (r_X12_in _ _ _ _ _ e1) rfl ?_
  refine xg_ite h (fun g3 h => ?_) (fun g3 h => ?_)
  · refine x_if_eq (tgt := 26) (pc' := 17) dX12_met_14 (by decide) rfl (fun _ => ?_) (fun hn => absurd g3 hn)
    refine x_iconst (pc' := 27) (x := (-1)) dX12_met_26 (by decide) rfl ?_
    obtain rfl := Option.some.inj h
    exact x_iret dX12_met_27 rfl rfl (Nat.le_of_ble_eq_true rfl) rfl
  · refine x_if_eq (tgt := 26) (pc' := 17) dX12_met_14 (by decide) rfl (fun hn => absurd hn g3) (fun _ => ?_)
    refine x_aload_n (pc' := 18) dX12_met_17 rfl rfl ?_
    refine x_getr (pc' := 21) (t := 109) dX12_met_18 f_X12_69 (by decide) rfl rfl rfl rfl ?_
    refine x_iload_n (pc' := 22) dX12_met_21 rfl rfl ?_
    refine xg_if h (fun g4 h => ?_)
    refine x_iald (pc' := 23) dX12_met_22 (by decide) rfl (xok_in g4) rfl ?_
    refine x_goto (tgt := 27) dX12_met_23 (by decide) ?_
    obtain rfl := Option.some.inj h
    exact x_iret dX12_met_27 rfl rfl (Nat.le_of_ble_eq_true rfl) rfl
def F_X12_forecast_102 (K43 : Int32 → Int32 → Int32 → (Nat → Nat → Int32) → (Nat → Nat → Int64) → xRr → Option (Int32 × xSt)) (v1 : Int32) (v3 : Int32) (s0 : Int32) (s1 : Int32) (hi : Nat → Nat → Int32) (hl : Nat → Nat → Int64) (r : xRr) : Option (Int32 × xSt) := K43 v1 (s0 + s1) (v3 + (1)) (xu hi 90 38 ((hi 90 38) + (1 : Int32))) hl r
set_option maxRecDepth 20000 in
set_option maxHeartbeats 2000000 in
theorem r_X12_forecast_102 (K43 : Int32 → Int32 → Int32 → (Nat → Nat → Int32) → (Nat → Nat → Int64) → xRr → Option (Int32 × xSt)) (hK43 : ∀ (v1 : Int32) (v2 : Int32) (v3 : Int32) (d4 : Option Value) (d5 : Option Value) (hi : Nat → Nat → Int32) (hl : Nat → Nat → Int64) (r : xRr) (o : Int32 × xSt), K43 v1 v2 v3 hi hl r = some o → xR (RX12, cX12_forecast, 6, false, 1) (8, 0, 0) z 0 0 43 [some (.ref 90), some (.int v1), some (.int v2), some (.int v3), d4, d5] [] (xhp hi hl r) (xoI o)) (v1 : Int32) (v3 : Int32) (s0 : Int32) (s1 : Int32) (d2 : Option Value) (d4 : Option Value) (d5 : Option Value) (hi : Nat → Nat → Int32) (hl : Nat → Nat → Int64) (r : xRr) (o : Int32 × xSt) (h : F_X12_forecast_102 K43 v1 v3 s0 s1 hi hl r = some o) : xR (RX12, cX12_forecast, 6, false, 1) (8, 0, 0) z 0 0 102 [some (.ref 90), some (.int v1), d2, some (.int v3), d4, d5] [.int s1, .int s0] (xhp hi hl r) (xoI o) := by
  refine x_iadd (pc' := 103) dX12_forecast_102 rfl ?_
  refine x_istore_n (pc' := 104) (L' := [some (.ref 90), some (.int v1), some (.int (s0 + s1)), some (.int v3), d4, d5]) dX12_forecast_103 (Nat.le_of_ble_eq_true rfl) rfl rfl ?_
  refine x_aload_n (pc' := 105) dX12_forecast_104 rfl rfl ?_
  refine x_dup (pc' := 106) dX12_forecast_105 rfl rfl ?_
  refine x_geti (pc' := 109) dX12_forecast_106 f_X12_308 (by decide) rfl rfl rfl ?_
  refine x_iconst (pc' := 110) (x := 1) dX12_forecast_109 (by decide) rfl ?_
  refine x_iadd (pc' := 111) dX12_forecast_110 rfl ?_
  refine x_puti (pc' := 114) dX12_forecast_111 f_X12_308 (Or.inl rfl) (by decide) rfl rfl rfl ?_
  refine x_iinc (pc' := 117) (v := (v3 + (1))) (L' := [some (.ref 90), some (.int v1), some (.int (s0 + s1)), some (.int (v3 + (1))), d4, d5]) dX12_forecast_114 rfl rfl (Nat.le_of_ble_eq_true rfl) rfl rfl ?_
  refine x_goto (tgt := 43) dX12_forecast_117 (by decide) ?_
  exact hK43 _ _ _ _ _ _ _ _ _ h
def F_X12_forecast_88 (K43 : Int32 → Int32 → Int32 → (Nat → Nat → Int32) → (Nat → Nat → Int64) → xRr → Option (Int32 × xSt)) (v1 : Int32) (v2 : Int32) (v3 : Int32) (s0 : Int32) (hi : Nat → Nat → Int32) (hl : Nat → Nat → Int64) (r : xRr) : Option (Int32 × xSt) := if s0 = v1 then F_X12_forecast_102 K43 v1 v3 v2 (1 : Int32) hi hl r else F_X12_forecast_102 K43 v1 v3 v2 (0 : Int32) hi hl r
set_option maxRecDepth 20000 in
set_option maxHeartbeats 2000000 in
theorem r_X12_forecast_88 (K43 : Int32 → Int32 → Int32 → (Nat → Nat → Int32) → (Nat → Nat → Int64) → xRr → Option (Int32 × xSt)) (hK43 : ∀ (v1 : Int32) (v2 : Int32) (v3 : Int32) (d4 : Option Value) (d5 : Option Value) (hi : Nat → Nat → Int32) (hl : Nat → Nat → Int64) (r : xRr) (o : Int32 × xSt), K43 v1 v2 v3 hi hl r = some o → xR (RX12, cX12_forecast, 6, false, 1) (8, 0, 0) z 0 0 43 [some (.ref 90), some (.int v1), some (.int v2), some (.int v3), d4, d5] [] (xhp hi hl r) (xoI o)) (v1 : Int32) (v2 : Int32) (v3 : Int32) (s0 : Int32) (d4 : Option Value) (d5 : Option Value) (hi : Nat → Nat → Int32) (hl : Nat → Nat → Int64) (r : xRr) (o : Int32 × xSt) (h : F_X12_forecast_88 K43 v1 v2 v3 s0 hi hl r = some o) : xR (RX12, cX12_forecast, 6, false, 1) (8, 0, 0) z 0 0 88 [some (.ref 90), some (.int v1), some (.int v2), some (.int v3), d4, d5] [.int s0] (xhp hi hl r) (xoI o) := by
  refine x_istore (pc' := 90) (L' := [some (.ref 90), some (.int v1), some (.int v2), some (.int v3), (xcl d4), some (.int s0)]) dX12_forecast_88 (Nat.le_of_ble_eq_true rfl) rfl rfl ?_
  refine x_iload_n (pc' := 91) dX12_forecast_90 rfl rfl ?_
  refine x_iload (pc' := 93) dX12_forecast_91 rfl rfl ?_
  refine x_iload_n (pc' := 94) dX12_forecast_93 rfl rfl ?_
  refine xg_ite h (fun g1 h => ?_) (fun g1 h => ?_)
  · refine x_icmp_ne (tgt := 101) (pc' := 97) dX12_forecast_94 (by decide) rfl (fun hn => absurd g1 hn) (fun _ => ?_)
    refine x_iconst (pc' := 98) (x := 1) dX12_forecast_97 (by decide) rfl ?_
    refine x_goto (tgt := 102) dX12_forecast_98 (by decide) ?_
    exact r_X12_forecast_102 K43 hK43 _ _ _ _ _ _ _ _ _ _ _ h
  · refine x_icmp_ne (tgt := 101) (pc' := 97) dX12_forecast_94 (by decide) rfl (fun _ => ?_) (fun hn => absurd hn g1)
    refine x_iconst (pc' := 102) (x := 0) dX12_forecast_101 (by decide) rfl ?_
    exact r_X12_forecast_102 K43 hK43 _ _ _ _ _ _ _ _ _ _ _ h
def F_X12_forecast_43 : Nat → Int32 → Int32 → Int32 → (Nat → Nat → Int32) → (Nat → Nat → Int64) → xRr → Option (Int32 × xSt)
  | 0, _, _, _, _, _, _ => none
  | n + 1, v1, v2, v3, hi, hl, r => if (60 : Int32) ≤ v3 then some (v2, hi, hl, r) else xbI (F_X12_isStep hi hl r) (fun w3 hi3 hl3 r3 => if w3 = 0 then some (v2, hi3, hl3, r3) else xbI (F_X12_goesNow (1 : Int32) hi3 hl3 r3) (fun w6 hi6 hl6 r6 => if w6 = (1 : Int32) then F_X12_forecast_88 (F_X12_forecast_43 n) v1 v2 v3 (5 : Int32) hi6 hl6 r6 else if w6 = 0 then F_X12_forecast_88 (F_X12_forecast_43 n) v1 v2 v3 (6 : Int32) hi6 hl6 r6 else xbP (F_X12_refusalOf w6) (fun w10 => F_X12_forecast_88 (F_X12_forecast_43 n) v1 v2 v3 w10 hi6 hl6 r6)))
set_option maxRecDepth 20000 in
set_option maxHeartbeats 2000000 in
theorem r_X12_forecast_43 : ∀ (n : Nat) (v1 : Int32) (v2 : Int32) (v3 : Int32) (d4 : Option Value) (d5 : Option Value) (hi : Nat → Nat → Int32) (hl : Nat → Nat → Int64) (r : xRr) (o : Int32 × xSt), F_X12_forecast_43 n v1 v2 v3 hi hl r = some o → xR (RX12, cX12_forecast, 6, false, 1) (8, 0, 0) z 0 0 43 [some (.ref 90), some (.int v1), some (.int v2), some (.int v3), d4, d5] [] (xhp hi hl r) (xoI o) := by
  intro n
  induction n with
  | zero =>
    intro v1 v2 v3 d4 d5 hi hl r o h
    have h : none = some o := h
    cases h
  | succ n ih =>
    intro v1 v2 v3 d4 d5 hi hl r o h
    refine x_iload_n (pc' := 44) dX12_forecast_43 rfl rfl ?_
    refine x_bipush (pc' := 46) (x := 60) dX12_forecast_44 (by decide) rfl ?_
    refine xg_ite h (fun g1 h => ?_) (fun g1 h => ?_)
    · refine x_icmp_ge (tgt := 120) (pc' := 49) dX12_forecast_46 (by decide) rfl (fun _ => ?_) (fun hn => absurd g1 hn)
      refine x_iload_n (pc' := 121) dX12_forecast_120 rfl rfl ?_
      obtain rfl := Option.some.inj h
      exact x_iret dX12_forecast_121 rfl rfl (Nat.le_of_ble_eq_true rfl) rfl
    · refine x_icmp_ge (tgt := 120) (pc' := 49) dX12_forecast_46 (by decide) rfl (fun hn => absurd hn g1) (fun _ => ?_)
      refine x_aload_n (pc' := 50) dX12_forecast_49 rfl rfl ?_
      refine xg_bI h (fun w3 hi3 hl3 r3 e2 h => ?_)
      refine x_callV (pc' := 53) (S := []) (As := []) (b' := (1, 0, 0)) dX12_forecast_50 l_X12_317 m_X12_isStep rfl rfl (show 90 < 122 by decide) rfl (Nat.le_of_ble_eq_true rfl) (Nat.le_of_ble_eq_true rfl) (Nat.le_of_ble_eq_true rfl) (Nat.le_of_ble_eq_true rfl) (r_X12_isStep _ _ _ _ e2) rfl ?_
      refine xg_ite h (fun g4 h => ?_) (fun g4 h => ?_)
      · refine x_if_eq (tgt := 120) (pc' := 56) dX12_forecast_53 (by decide) rfl (fun _ => ?_) (fun hn => absurd g4 hn)
        refine x_iload_n (pc' := 121) dX12_forecast_120 rfl rfl ?_
        obtain rfl := Option.some.inj h
        exact x_iret dX12_forecast_121 rfl rfl (Nat.le_of_ble_eq_true rfl) rfl
      · refine x_if_eq (tgt := 120) (pc' := 56) dX12_forecast_53 (by decide) rfl (fun hn => absurd hn g4) (fun _ => ?_)
        refine x_aload_n (pc' := 57) dX12_forecast_56 rfl rfl ?_
        refine x_iconst (pc' := 58) (x := 1) dX12_forecast_57 (by decide) rfl ?_
        refine xg_bI h (fun w6 hi6 hl6 r6 e5 h => ?_)
        refine x_callV (pc' := 61) (S := []) (As := [.int (1 : Int32)]) (b' := (7, 0, 0)) dX12_forecast_58 l_X12_321 m_X12_goesNow rfl rfl (show 90 < 122 by decide) rfl (Nat.le_of_ble_eq_true rfl) (Nat.le_of_ble_eq_true rfl) (Nat.le_of_ble_eq_true rfl) (Nat.le_of_ble_eq_true rfl) (r_X12_goesNow _ _ _ _ _ e5) rfl ?_
        refine x_istore (pc' := 63) (L' := [some (.ref 90), some (.int v1), some (.int v2), some (.int v3), some (.int w6), d5]) dX12_forecast_61 (Nat.le_of_ble_eq_true rfl) rfl rfl ?_
        refine x_iload (pc' := 65) dX12_forecast_63 rfl rfl ?_
        refine x_iconst (pc' := 66) (x := 1) dX12_forecast_65 (by decide) rfl ?_
        refine xg_ite h (fun g7 h => ?_) (fun g7 h => ?_)
        · refine x_icmp_ne (tgt := 73) (pc' := 69) dX12_forecast_66 (by decide) rfl (fun hn => absurd g7 hn) (fun _ => ?_)
          refine x_iconst (pc' := 70) (x := 5) dX12_forecast_69 (by decide) rfl ?_
          refine x_goto (tgt := 88) dX12_forecast_70 (by decide) ?_
          exact r_X12_forecast_88 (F_X12_forecast_43 n) ih _ _ _ _ _ _ _ _ _ _ h
        · refine x_icmp_ne (tgt := 73) (pc' := 69) dX12_forecast_66 (by decide) rfl (fun _ => ?_) (fun hn => absurd hn g7)
          refine x_iload (pc' := 75) dX12_forecast_73 rfl rfl ?_
          refine xg_ite h (fun g8 h => ?_) (fun g8 h => ?_)
          · refine x_if_ne (tgt := 83) (pc' := 78) dX12_forecast_75 (by decide) rfl (fun hn => absurd g8 hn) (fun _ => ?_)
            refine x_bipush (pc' := 80) (x := 6) dX12_forecast_78 (by decide) rfl ?_
            refine x_goto (tgt := 88) dX12_forecast_80 (by decide) ?_
            exact r_X12_forecast_88 (F_X12_forecast_43 n) ih _ _ _ _ _ _ _ _ _ _ h
          · refine x_if_ne (tgt := 83) (pc' := 78) dX12_forecast_75 (by decide) rfl (fun _ => ?_) (fun hn => absurd hn g8)
            refine x_iload (pc' := 85) dX12_forecast_83 rfl rfl ?_
            refine xg_bP h (fun w10 e9 h => ?_)
            refine x_callS (pc' := 88) (S := []) (As := [.int w6]) (b' := (0, 0, 0)) dX12_forecast_85 l_X12_325 m_X12_refusalOf rfl rfl (Nat.le_of_ble_eq_true rfl) (Nat.le_of_ble_eq_true rfl) (Nat.le_of_ble_eq_true rfl) (Nat.le_of_ble_eq_true rfl) (r_X12_refusalOf _ _ _ e9) rfl ?_
            exact r_X12_forecast_88 (F_X12_forecast_43 n) ih _ _ _ _ _ _ _ _ _ _ h
def F_X12_forecast (v1 : Int32) (hi : Nat → Nat → Int32) (hl : Nat → Nat → Int64) (r : xRr) : Option (Int32 × xSt) := xbP (F_X12_in (Int32.toInt64 v1) (0 : Int64) (6 : Int64)) (fun w2 => if w2 = 0 then some (((-1) : Int32), (xu hi 90 0 (0 : Int32)), hl, r) else xbI (F_X12_open (xu hi 90 0 (0 : Int32)) hl r) (fun w5 hi5 hl5 r5 => if w5 ≤ 0 then F_X12_forecast_43 1000000 v1 (0 : Int32) (0 : Int32) (xu (xu hi5 90 38 (0 : Int32)) 90 39 (0 : Int32)) hl5 r5 else some (((-2) : Int32), hi5, hl5, r5)))
set_option maxRecDepth 20000 in
set_option maxHeartbeats 2000000 in
theorem r_X12_forecast (v1 : Int32) (hi : Nat → Nat → Int32) (hl : Nat → Nat → Int64) (r : xRr) (o : Int32 × xSt) (h : F_X12_forecast v1 hi hl r = some o) : xM yX12_forecast cX12_forecast 6 1 (8, 0, 0) z [.ref 90, .int v1] (xhp hi hl r) (xoI o) := by
  refine x_meth2 (C := RX12) (ini := false) (L := [some (.ref 90), some (.int v1), none, none, none, none]) rfl (by decide) (fun h9 => by cases h9) (by decide) (Nat.le_of_ble_eq_true rfl) rfl ?_
  refine x_aload_n (pc' := 1) dX12_forecast_0 rfl rfl ?_
  refine x_iconst (pc' := 2) (x := 0) dX12_forecast_1 (by decide) rfl ?_
  refine x_puti (pc' := 5) dX12_forecast_2 f_X12_109 (Or.inl rfl) (by decide) rfl rfl rfl ?_
  refine x_iload_n (pc' := 6) dX12_forecast_5 rfl rfl ?_
  refine x_i2l (pc' := 7) dX12_forecast_6 rfl ?_
  refine x_lconst (pc' := 8) (x := 0) dX12_forecast_7 (by decide) rfl ?_
  refine x_ldc2 (pc' := 11) dX12_forecast_8 k_X12_303 rfl ?_
  refine xg_bP h (fun w2 e1 h => ?_)
  refine x_callS (pc' := 14) (S := []) (As := [.long (Int32.toInt64 v1), .long (0 : Int64), .long (6 : Int64)]) (b' := (0, 0, 0)) dX12_forecast_11 l_X12_118 m_X12_in rfl rfl (Nat.le_of_ble_eq_true rfl) (Nat.le_of_ble_eq_true rfl) (Nat.le_of_ble_eq_true rfl) (Nat.le_of_ble_eq_true rfl) (r_X12_in _ _ _ _ _ e1) rfl ?_
  refine xg_ite h (fun g3 h => ?_) (fun g3 h => ?_)
  · refine x_if_ne (tgt := 19) (pc' := 17) dX12_forecast_14 (by decide) rfl (fun hn => absurd g3 hn) (fun _ => ?_)
    refine x_iconst (pc' := 18) (x := (-1)) dX12_forecast_17 (by decide) rfl ?_
    obtain rfl := Option.some.inj h
    exact x_iret dX12_forecast_18 rfl rfl (Nat.le_of_ble_eq_true rfl) rfl
  · refine x_if_ne (tgt := 19) (pc' := 17) dX12_forecast_14 (by decide) rfl (fun _ => ?_) (fun hn => absurd hn g3)
    refine x_aload_n (pc' := 20) dX12_forecast_19 rfl rfl ?_
    refine xg_bI h (fun w5 hi5 hl5 r5 e4 h => ?_)
    refine x_callV (pc' := 23) (S := []) (As := []) (b' := (0, 0, 0)) dX12_forecast_20 l_X12_300 m_X12_open rfl rfl (show 90 < 122 by decide) rfl (Nat.le_of_ble_eq_true rfl) (Nat.le_of_ble_eq_true rfl) (Nat.le_of_ble_eq_true rfl) (Nat.le_of_ble_eq_true rfl) (r_X12_open _ _ _ _ e4) rfl ?_
    refine xg_ite h (fun g6 h => ?_) (fun g6 h => ?_)
    · refine x_if_le (tgt := 29) (pc' := 26) dX12_forecast_23 (by decide) rfl (fun _ => ?_) (fun hn => absurd g6 hn)
      refine x_aload_n (pc' := 30) dX12_forecast_29 rfl rfl ?_
      refine x_iconst (pc' := 31) (x := 0) dX12_forecast_30 (by decide) rfl ?_
      refine x_puti (pc' := 34) dX12_forecast_31 f_X12_308 (Or.inl rfl) (by decide) rfl rfl rfl ?_
      refine x_aload_n (pc' := 35) dX12_forecast_34 rfl rfl ?_
      refine x_iconst (pc' := 36) (x := 0) dX12_forecast_35 (by decide) rfl ?_
      refine x_puti (pc' := 39) dX12_forecast_36 f_X12_305 (Or.inl rfl) (by decide) rfl rfl rfl ?_
      refine x_iconst (pc' := 40) (x := 0) dX12_forecast_39 (by decide) rfl ?_
      refine x_istore_n (pc' := 41) (L' := [some (.ref 90), some (.int v1), some (.int (0 : Int32)), none, none, none]) dX12_forecast_40 (Nat.le_of_ble_eq_true rfl) rfl rfl ?_
      refine x_iconst (pc' := 42) (x := 0) dX12_forecast_41 (by decide) rfl ?_
      refine x_istore_n (pc' := 43) (L' := [some (.ref 90), some (.int v1), some (.int (0 : Int32)), some (.int (0 : Int32)), none, none]) dX12_forecast_42 (Nat.le_of_ble_eq_true rfl) rfl rfl ?_
      exact r_X12_forecast_43 1000000 _ _ _ _ _ _ _ _ _ h
    · refine x_if_le (tgt := 29) (pc' := 26) dX12_forecast_23 (by decide) rfl (fun hn => absurd hn g6) (fun _ => ?_)
      refine x_bipush (pc' := 28) (x := (-2)) dX12_forecast_26 (by decide) rfl ?_
      obtain rfl := Option.some.inj h
      exact x_iret dX12_forecast_28 rfl rfl (Nat.le_of_ble_eq_true rfl) rfl
def F_X12_isPlain_63 (K4 : Int32 → Int32 → (Nat → Nat → Int32) → (Nat → Nat → Int64) → xRr → Option (Int32 × xSt)) (v2 : Int32) (s0 : Int32) (hi : Nat → Nat → Int32) (hl : Nat → Nat → Int64) (r : xRr) : Option (Int32 × xSt) := K4 s0 (v2 + (1)) hi hl r
set_option maxRecDepth 20000 in
set_option maxHeartbeats 2000000 in
theorem r_X12_isPlain_63 (K4 : Int32 → Int32 → (Nat → Nat → Int32) → (Nat → Nat → Int64) → xRr → Option (Int32 × xSt)) (hK4 : ∀ (v1 : Int32) (v2 : Int32) (hi : Nat → Nat → Int32) (hl : Nat → Nat → Int64) (r : xRr) (o : Int32 × xSt), K4 v1 v2 hi hl r = some o → xR (RX12, cX12_isPlain, 3, false, 3) (0, 0, 0) z 0 0 4 [some (.ref 90), some (.int v1), some (.int v2)] [] (xhp hi hl r) (xoI o)) (v2 : Int32) (s0 : Int32) (d1 : Option Value) (hi : Nat → Nat → Int32) (hl : Nat → Nat → Int64) (r : xRr) (o : Int32 × xSt) (h : F_X12_isPlain_63 K4 v2 s0 hi hl r = some o) : xR (RX12, cX12_isPlain, 3, false, 3) (0, 0, 0) z 0 0 63 [some (.ref 90), d1, some (.int v2)] [.int s0] (xhp hi hl r) (xoI o) := by
  refine x_istore_n (pc' := 64) (L' := [some (.ref 90), some (.int s0), some (.int v2)]) dX12_isPlain_63 (Nat.le_of_ble_eq_true rfl) rfl rfl ?_
  refine x_iinc (pc' := 67) (v := (v2 + (1))) (L' := [some (.ref 90), some (.int s0), some (.int (v2 + (1)))]) dX12_isPlain_64 rfl rfl (Nat.le_of_ble_eq_true rfl) rfl rfl ?_
  refine x_goto (tgt := 4) dX12_isPlain_67 (by decide) ?_
  exact hK4 _ _ _ _ _ _ h
def F_X12_isPlain_62 (K4 : Int32 → Int32 → (Nat → Nat → Int32) → (Nat → Nat → Int64) → xRr → Option (Int32 × xSt)) (v2 : Int32) (hi : Nat → Nat → Int32) (hl : Nat → Nat → Int64) (r : xRr) : Option (Int32 × xSt) := F_X12_isPlain_63 K4 v2 (0 : Int32) hi hl r
set_option maxRecDepth 20000 in
set_option maxHeartbeats 2000000 in
theorem r_X12_isPlain_62 (K4 : Int32 → Int32 → (Nat → Nat → Int32) → (Nat → Nat → Int64) → xRr → Option (Int32 × xSt)) (hK4 : ∀ (v1 : Int32) (v2 : Int32) (hi : Nat → Nat → Int32) (hl : Nat → Nat → Int64) (r : xRr) (o : Int32 × xSt), K4 v1 v2 hi hl r = some o → xR (RX12, cX12_isPlain, 3, false, 3) (0, 0, 0) z 0 0 4 [some (.ref 90), some (.int v1), some (.int v2)] [] (xhp hi hl r) (xoI o)) (v2 : Int32) (d1 : Option Value) (hi : Nat → Nat → Int32) (hl : Nat → Nat → Int64) (r : xRr) (o : Int32 × xSt) (h : F_X12_isPlain_62 K4 v2 hi hl r = some o) : xR (RX12, cX12_isPlain, 3, false, 3) (0, 0, 0) z 0 0 62 [some (.ref 90), d1, some (.int v2)] [] (xhp hi hl r) (xoI o) := by
  refine x_iconst (pc' := 63) (x := 0) dX12_isPlain_62 (by decide) rfl ?_
  exact r_X12_isPlain_63 K4 hK4 _ _ _ _ _ _ _ h
def F_X12_isPlain_4 : Nat → Int32 → Int32 → (Nat → Nat → Int32) → (Nat → Nat → Int64) → xRr → Option (Int32 × xSt)
  | 0, _, _, _, _, _ => none
  | n + 1, v1, v2, hi, hl, r => if (hi 90 22) ≤ v2 then if v1 = 0 ∨ v1 = 1 then some (v1, hi, hl, r) else none else if v1 = 0 then F_X12_isPlain_62 (F_X12_isPlain_4 n) v2 hi hl r else if xok ((5 : Int32) * v2) 80 = true then if (5 : Int32) ≤ (hi 107 (Int32.toNatClampNeg ((5 : Int32) * v2))) then F_X12_isPlain_62 (F_X12_isPlain_4 n) v2 hi hl r else if xok (((5 : Int32) * v2) + (2 : Int32)) 80 = true then if (12 : Int32) ≤ (hi 107 (Int32.toNatClampNeg (((5 : Int32) * v2) + (2 : Int32)))) then F_X12_isPlain_62 (F_X12_isPlain_4 n) v2 hi hl r else if xok (((5 : Int32) * v2) + (4 : Int32)) 80 = true then if (12 : Int32) ≤ (hi 107 (Int32.toNatClampNeg (((5 : Int32) * v2) + (4 : Int32)))) then F_X12_isPlain_62 (F_X12_isPlain_4 n) v2 hi hl r else F_X12_isPlain_63 (F_X12_isPlain_4 n) v2 (1 : Int32) hi hl r else none else none else none
set_option maxRecDepth 20000 in
set_option maxHeartbeats 2000000 in
theorem r_X12_isPlain_4 : ∀ (n : Nat) (v1 : Int32) (v2 : Int32) (hi : Nat → Nat → Int32) (hl : Nat → Nat → Int64) (r : xRr) (o : Int32 × xSt), F_X12_isPlain_4 n v1 v2 hi hl r = some o → xR (RX12, cX12_isPlain, 3, false, 3) (0, 0, 0) z 0 0 4 [some (.ref 90), some (.int v1), some (.int v2)] [] (xhp hi hl r) (xoI o) := by
  intro n
  induction n with
  | zero =>
    intro v1 v2 hi hl r o h
    have h : none = some o := h
    cases h
  | succ n ih =>
    intro v1 v2 hi hl r o h
    refine x_iload_n (pc' := 5) dX12_isPlain_4 rfl rfl ?_
    refine x_aload_n (pc' := 6) dX12_isPlain_5 rfl rfl ?_
    refine x_geti (pc' := 9) dX12_isPlain_6 f_X12_172 (by decide) rfl rfl rfl ?_
    refine xg_ite h (fun g1 h => ?_) (fun g1 h => ?_)
    · refine x_icmp_ge (tgt := 70) (pc' := 12) dX12_isPlain_9 (by decide) rfl (fun _ => ?_) (fun hn => absurd g1 hn)
      refine x_iload_n (pc' := 71) dX12_isPlain_70 rfl rfl ?_
      refine xg_or h (fun g2 h => ?_)
      obtain rfl := Option.some.inj h
      exact x_zret dX12_isPlain_71 rfl g2 rfl (Nat.le_of_ble_eq_true rfl) rfl
    · refine x_icmp_ge (tgt := 70) (pc' := 12) dX12_isPlain_9 (by decide) rfl (fun hn => absurd hn g1) (fun _ => ?_)
      refine x_iload_n (pc' := 13) dX12_isPlain_12 rfl rfl ?_
      refine xg_ite h (fun g3 h => ?_) (fun g3 h => ?_)
      · refine x_if_eq (tgt := 62) (pc' := 16) dX12_isPlain_13 (by decide) rfl (fun _ => ?_) (fun hn => absurd g3 hn)
        exact r_X12_isPlain_62 (F_X12_isPlain_4 n) ih _ _ _ _ _ _ h
      · refine x_if_eq (tgt := 62) (pc' := 16) dX12_isPlain_13 (by decide) rfl (fun hn => absurd hn g3) (fun _ => ?_)
        refine x_aload_n (pc' := 17) dX12_isPlain_16 rfl rfl ?_
        refine x_getr (pc' := 20) (t := 107) dX12_isPlain_17 f_X12_63 (by decide) rfl rfl rfl rfl ?_
        refine x_iconst (pc' := 21) (x := 5) dX12_isPlain_20 (by decide) rfl ?_
        refine x_iload_n (pc' := 22) dX12_isPlain_21 rfl rfl ?_
        refine x_imul (pc' := 23) dX12_isPlain_22 rfl ?_
        refine xg_if h (fun g4 h => ?_)
        refine x_iald (pc' := 24) dX12_isPlain_23 (by decide) rfl (xok_in g4) rfl ?_
        refine x_iconst (pc' := 25) (x := 5) dX12_isPlain_24 (by decide) rfl ?_
        refine xg_ite h (fun g5 h => ?_) (fun g5 h => ?_)
        · refine x_icmp_ge (tgt := 62) (pc' := 28) dX12_isPlain_25 (by decide) rfl (fun _ => ?_) (fun hn => absurd g5 hn)
          exact r_X12_isPlain_62 (F_X12_isPlain_4 n) ih _ _ _ _ _ _ h
        · refine x_icmp_ge (tgt := 62) (pc' := 28) dX12_isPlain_25 (by decide) rfl (fun hn => absurd hn g5) (fun _ => ?_)
          refine x_aload_n (pc' := 29) dX12_isPlain_28 rfl rfl ?_
          refine x_getr (pc' := 32) (t := 107) dX12_isPlain_29 f_X12_63 (by decide) rfl rfl rfl rfl ?_
          refine x_iconst (pc' := 33) (x := 5) dX12_isPlain_32 (by decide) rfl ?_
          refine x_iload_n (pc' := 34) dX12_isPlain_33 rfl rfl ?_
          refine x_imul (pc' := 35) dX12_isPlain_34 rfl ?_
          refine x_iconst (pc' := 36) (x := 2) dX12_isPlain_35 (by decide) rfl ?_
          refine x_iadd (pc' := 37) dX12_isPlain_36 rfl ?_
          refine xg_if h (fun g6 h => ?_)
          refine x_iald (pc' := 38) dX12_isPlain_37 (by decide) rfl (xok_in g6) rfl ?_
          refine x_bipush (pc' := 40) (x := 12) dX12_isPlain_38 (by decide) rfl ?_
          refine xg_ite h (fun g7 h => ?_) (fun g7 h => ?_)
          · refine x_icmp_ge (tgt := 62) (pc' := 43) dX12_isPlain_40 (by decide) rfl (fun _ => ?_) (fun hn => absurd g7 hn)
            exact r_X12_isPlain_62 (F_X12_isPlain_4 n) ih _ _ _ _ _ _ h
          · refine x_icmp_ge (tgt := 62) (pc' := 43) dX12_isPlain_40 (by decide) rfl (fun hn => absurd hn g7) (fun _ => ?_)
            refine x_aload_n (pc' := 44) dX12_isPlain_43 rfl rfl ?_
            refine x_getr (pc' := 47) (t := 107) dX12_isPlain_44 f_X12_63 (by decide) rfl rfl rfl rfl ?_
            refine x_iconst (pc' := 48) (x := 5) dX12_isPlain_47 (by decide) rfl ?_
            refine x_iload_n (pc' := 49) dX12_isPlain_48 rfl rfl ?_
            refine x_imul (pc' := 50) dX12_isPlain_49 rfl ?_
            refine x_iconst (pc' := 51) (x := 4) dX12_isPlain_50 (by decide) rfl ?_
            refine x_iadd (pc' := 52) dX12_isPlain_51 rfl ?_
            refine xg_if h (fun g8 h => ?_)
            refine x_iald (pc' := 53) dX12_isPlain_52 (by decide) rfl (xok_in g8) rfl ?_
            refine x_bipush (pc' := 55) (x := 12) dX12_isPlain_53 (by decide) rfl ?_
            refine xg_ite h (fun g9 h => ?_) (fun g9 h => ?_)
            · refine x_icmp_ge (tgt := 62) (pc' := 58) dX12_isPlain_55 (by decide) rfl (fun _ => ?_) (fun hn => absurd g9 hn)
              exact r_X12_isPlain_62 (F_X12_isPlain_4 n) ih _ _ _ _ _ _ h
            · refine x_icmp_ge (tgt := 62) (pc' := 58) dX12_isPlain_55 (by decide) rfl (fun hn => absurd hn g9) (fun _ => ?_)
              refine x_iconst (pc' := 59) (x := 1) dX12_isPlain_58 (by decide) rfl ?_
              refine x_goto (tgt := 63) dX12_isPlain_59 (by decide) ?_
              exact r_X12_isPlain_63 (F_X12_isPlain_4 n) ih _ _ _ _ _ _ _ h
def F_X12_isPlain (hi : Nat → Nat → Int32) (hl : Nat → Nat → Int64) (r : xRr) : Option (Int32 × xSt) := F_X12_isPlain_4 1000000 (1 : Int32) (0 : Int32) hi hl r
set_option maxRecDepth 20000 in
set_option maxHeartbeats 2000000 in
theorem r_X12_isPlain (hi : Nat → Nat → Int32) (hl : Nat → Nat → Int64) (r : xRr) (o : Int32 × xSt) (h : F_X12_isPlain hi hl r = some o) : xM yX12_isPlain cX12_isPlain 3 3 (0, 0, 0) z [.ref 90] (xhp hi hl r) (xoI o) := by
  refine x_meth2 (C := RX12) (ini := false) (L := [some (.ref 90), none, none]) rfl (by decide) (fun h9 => by cases h9) (by decide) (Nat.le_of_ble_eq_true rfl) rfl ?_
  refine x_iconst (pc' := 1) (x := 1) dX12_isPlain_0 (by decide) rfl ?_
  refine x_istore_n (pc' := 2) (L' := [some (.ref 90), some (.int (1 : Int32)), none]) dX12_isPlain_1 (Nat.le_of_ble_eq_true rfl) rfl rfl ?_
  refine x_iconst (pc' := 3) (x := 0) dX12_isPlain_2 (by decide) rfl ?_
  refine x_istore_n (pc' := 4) (L' := [some (.ref 90), some (.int (1 : Int32)), some (.int (0 : Int32))]) dX12_isPlain_3 (Nat.le_of_ble_eq_true rfl) rfl rfl ?_
  exact r_X12_isPlain_4 1000000 _ _ _ _ _ _ h
def F_X12_cellAt (v1 : Int32) (v2 : Int32) (hi : Nat → Nat → Int32) (hl : Nat → Nat → Int64) (r : xRr) : Option (Int32 × xSt) := xbI (F_X12_placeIn v1 v2 hi hl r) (fun w2 hi2 hl2 r2 => xbI (F_X12_bankOf v1 hi2 hl2 r2) (fun w4 hi4 hl4 r4 => if w2 = ((-1000) : Int32) then some (((-1000) : Int32), hi4, hl4, r4) else xbI (F_X12_isCell w4 w2 hi4 hl4 r4) (fun w7 hi7 hl7 r7 => if w7 = 0 then some (((-1000) : Int32), hi7, hl7, r7) else some ((((12 : Int32) * w4) + w2), hi7, hl7, r7))))
set_option maxRecDepth 20000 in
set_option maxHeartbeats 2000000 in
theorem r_X12_cellAt (v1 : Int32) (v2 : Int32) (hi : Nat → Nat → Int32) (hl : Nat → Nat → Int64) (r : xRr) (o : Int32 × xSt) (h : F_X12_cellAt v1 v2 hi hl r = some o) : xM yX12_cellAt cX12_cellAt 5 1 (2, 0, 0) z [.ref 90, .int v1, .int v2] (xhp hi hl r) (xoI o) := by
  refine x_meth2 (C := RX12) (ini := false) (L := [some (.ref 90), some (.int v1), some (.int v2), none, none]) rfl (by decide) (fun h9 => by cases h9) (by decide) (Nat.le_of_ble_eq_true rfl) rfl ?_
  refine x_aload_n (pc' := 1) dX12_cellAt_0 rfl rfl ?_
  refine x_iload_n (pc' := 2) dX12_cellAt_1 rfl rfl ?_
  refine x_iload_n (pc' := 3) dX12_cellAt_2 rfl rfl ?_
  refine xg_bI h (fun w2 hi2 hl2 r2 e1 h => ?_)
  refine x_callV (pc' := 6) (S := []) (As := [.int v1, .int v2]) (b' := (1, 0, 0)) dX12_cellAt_3 l_X12_209 m_X12_placeIn rfl rfl (show 90 < 122 by decide) rfl (Nat.le_of_ble_eq_true rfl) (Nat.le_of_ble_eq_true rfl) (Nat.le_of_ble_eq_true rfl) (Nat.le_of_ble_eq_true rfl) (r_X12_placeIn _ _ _ _ _ _ e1) rfl ?_
  refine x_istore_n (pc' := 7) (L' := [some (.ref 90), some (.int v1), some (.int v2), some (.int w2), none]) dX12_cellAt_6 (Nat.le_of_ble_eq_true rfl) rfl rfl ?_
  refine x_aload_n (pc' := 8) dX12_cellAt_7 rfl rfl ?_
  refine x_iload_n (pc' := 9) dX12_cellAt_8 rfl rfl ?_
  refine xg_bI h (fun w4 hi4 hl4 r4 e3 h => ?_)
  refine x_callV (pc' := 12) (S := []) (As := [.int v1]) (b' := (0, 0, 0)) dX12_cellAt_9 l_X12_192 m_X12_bankOf rfl rfl (show 90 < 122 by decide) rfl (Nat.le_of_ble_eq_true rfl) (Nat.le_of_ble_eq_true rfl) (Nat.le_of_ble_eq_true rfl) (Nat.le_of_ble_eq_true rfl) (r_X12_bankOf _ _ _ _ _ e3) rfl ?_
  refine x_istore (pc' := 14) (L' := [some (.ref 90), some (.int v1), some (.int v2), some (.int w2), some (.int w4)]) dX12_cellAt_12 (Nat.le_of_ble_eq_true rfl) rfl rfl ?_
  refine x_iload_n (pc' := 15) dX12_cellAt_14 rfl rfl ?_
  refine x_sipush (pc' := 18) (x := (-1000)) dX12_cellAt_15 (by decide) rfl ?_
  refine xg_ite h (fun g5 h => ?_) (fun g5 h => ?_)
  · refine x_icmp_eq (tgt := 41) (pc' := 21) dX12_cellAt_18 (by decide) rfl (fun _ => ?_) (fun hn => absurd g5 hn)
    refine x_sipush (pc' := 44) (x := (-1000)) dX12_cellAt_41 (by decide) rfl ?_
    obtain rfl := Option.some.inj h
    exact x_iret dX12_cellAt_44 rfl rfl (Nat.le_of_ble_eq_true rfl) rfl
  · refine x_icmp_eq (tgt := 41) (pc' := 21) dX12_cellAt_18 (by decide) rfl (fun hn => absurd hn g5) (fun _ => ?_)
    refine x_aload_n (pc' := 22) dX12_cellAt_21 rfl rfl ?_
    refine x_iload (pc' := 24) dX12_cellAt_22 rfl rfl ?_
    refine x_iload_n (pc' := 25) dX12_cellAt_24 rfl rfl ?_
    refine xg_bI h (fun w7 hi7 hl7 r7 e6 h => ?_)
    refine x_callV (pc' := 28) (S := []) (As := [.int w4, .int w2]) (b' := (1, 0, 0)) dX12_cellAt_25 l_X12_203 m_X12_isCell rfl rfl (show 90 < 122 by decide) rfl (Nat.le_of_ble_eq_true rfl) (Nat.le_of_ble_eq_true rfl) (Nat.le_of_ble_eq_true rfl) (Nat.le_of_ble_eq_true rfl) (r_X12_isCell _ _ _ _ _ _ e6) rfl ?_
    refine xg_ite h (fun g8 h => ?_) (fun g8 h => ?_)
    · refine x_if_eq (tgt := 41) (pc' := 31) dX12_cellAt_28 (by decide) rfl (fun _ => ?_) (fun hn => absurd g8 hn)
      refine x_sipush (pc' := 44) (x := (-1000)) dX12_cellAt_41 (by decide) rfl ?_
      obtain rfl := Option.some.inj h
      exact x_iret dX12_cellAt_44 rfl rfl (Nat.le_of_ble_eq_true rfl) rfl
    · refine x_if_eq (tgt := 41) (pc' := 31) dX12_cellAt_28 (by decide) rfl (fun hn => absurd hn g8) (fun _ => ?_)
      refine x_bipush (pc' := 33) (x := 12) dX12_cellAt_31 (by decide) rfl ?_
      refine x_iload (pc' := 35) dX12_cellAt_33 rfl rfl ?_
      refine x_imul (pc' := 36) dX12_cellAt_35 rfl ?_
      refine x_iload_n (pc' := 37) dX12_cellAt_36 rfl rfl ?_
      refine x_iadd (pc' := 38) dX12_cellAt_37 rfl ?_
      refine x_goto (tgt := 44) dX12_cellAt_38 (by decide) ?_
      obtain rfl := Option.some.inj h
      exact x_iret dX12_cellAt_44 rfl rfl (Nat.le_of_ble_eq_true rfl) rfl
def F_X12_cellOf_12 (s0 : Int32) (s1 : Int32) (hi : Nat → Nat → Int32) (hl : Nat → Nat → Int64) (r : xRr) : Option (Int32 × xSt) := if xok (s0 + s1) 80 = true then if xok ((s0 + s1) + (1 : Int32)) 80 = true then xbI (F_X12_cellAt (hi 107 (Int32.toNatClampNeg (s0 + s1))) (hi 107 (Int32.toNatClampNeg ((s0 + s1) + (1 : Int32)))) hi hl r) (fun w4 hi4 hl4 r4 => some (w4, hi4, hl4, r4)) else none else none
set_option maxRecDepth 20000 in
set_option maxHeartbeats 2000000 in
theorem r_X12_cellOf_12 (s0 : Int32) (s1 : Int32) (d1 : Option Value) (d2 : Option Value) (d3 : Option Value) (hi : Nat → Nat → Int32) (hl : Nat → Nat → Int64) (r : xRr) (o : Int32 × xSt) (h : F_X12_cellOf_12 s0 s1 hi hl r = some o) : xR (RX12, cX12_cellOf, 4, false, 1) (3, 0, 0) z 0 0 12 [some (.ref 90), d1, d2, d3] [.int s1, .int s0] (xhp hi hl r) (xoI o) := by
  refine x_iadd (pc' := 13) dX12_cellOf_12 rfl ?_
  refine x_istore_n (pc' := 14) (L' := [some (.ref 90), d1, (xcl d2), some (.int (s0 + s1))]) dX12_cellOf_13 (Nat.le_of_ble_eq_true rfl) rfl rfl ?_
  refine x_aload_n (pc' := 15) dX12_cellOf_14 rfl rfl ?_
  refine x_aload_n (pc' := 16) dX12_cellOf_15 rfl rfl ?_
  refine x_getr (pc' := 19) (t := 107) dX12_cellOf_16 f_X12_63 (by decide) rfl rfl rfl rfl ?_
  refine x_iload_n (pc' := 20) dX12_cellOf_19 rfl rfl ?_
  refine xg_if h (fun g1 h => ?_)
  refine x_iald (pc' := 21) dX12_cellOf_20 (by decide) rfl (xok_in g1) rfl ?_
  refine x_aload_n (pc' := 22) dX12_cellOf_21 rfl rfl ?_
  refine x_getr (pc' := 25) (t := 107) dX12_cellOf_22 f_X12_63 (by decide) rfl rfl rfl rfl ?_
  refine x_iload_n (pc' := 26) dX12_cellOf_25 rfl rfl ?_
  refine x_iconst (pc' := 27) (x := 1) dX12_cellOf_26 (by decide) rfl ?_
  refine x_iadd (pc' := 28) dX12_cellOf_27 rfl ?_
  refine xg_if h (fun g2 h => ?_)
  refine x_iald (pc' := 29) dX12_cellOf_28 (by decide) rfl (xok_in g2) rfl ?_
  refine xg_bI h (fun w4 hi4 hl4 r4 e3 h => ?_)
  refine x_callV (pc' := 32) (S := []) (As := [.int (hi 107 (Int32.toNatClampNeg (s0 + s1))), .int (hi 107 (Int32.toNatClampNeg ((s0 + s1) + (1 : Int32))))]) (b' := (2, 0, 0)) dX12_cellOf_29 l_X12_334 m_X12_cellAt rfl rfl (show 90 < 122 by decide) rfl (Nat.le_of_ble_eq_true rfl) (Nat.le_of_ble_eq_true rfl) (Nat.le_of_ble_eq_true rfl) (Nat.le_of_ble_eq_true rfl) (r_X12_cellAt _ _ _ _ _ _ e3) rfl ?_
  obtain rfl := Option.some.inj h
  exact x_iret dX12_cellOf_32 rfl rfl (Nat.le_of_ble_eq_true rfl) rfl
def F_X12_cellOf (v1 : Int32) (v2 : Int32) (hi : Nat → Nat → Int32) (hl : Nat → Nat → Int64) (r : xRr) : Option (Int32 × xSt) := if v2 = 0 then F_X12_cellOf_12 ((5 : Int32) * v1) (3 : Int32) hi hl r else F_X12_cellOf_12 ((5 : Int32) * v1) (1 : Int32) hi hl r
set_option maxRecDepth 20000 in
set_option maxHeartbeats 2000000 in
theorem r_X12_cellOf (v1 : Int32) (v2 : Int32) (hi : Nat → Nat → Int32) (hl : Nat → Nat → Int64) (r : xRr) (o : Int32 × xSt) (h : F_X12_cellOf v1 v2 hi hl r = some o) : xM yX12_cellOf cX12_cellOf 4 1 (3, 0, 0) z [.ref 90, .int v1, .int v2] (xhp hi hl r) (xoI o) := by
  refine x_meth2 (C := RX12) (ini := false) (L := [some (.ref 90), some (.int v1), some (.int v2), none]) rfl (by decide) (fun h9 => by cases h9) (by decide) (Nat.le_of_ble_eq_true rfl) rfl ?_
  refine x_iconst (pc' := 1) (x := 5) dX12_cellOf_0 (by decide) rfl ?_
  refine x_iload_n (pc' := 2) dX12_cellOf_1 rfl rfl ?_
  refine x_imul (pc' := 3) dX12_cellOf_2 rfl ?_
  refine x_iload_n (pc' := 4) dX12_cellOf_3 rfl rfl ?_
  refine xg_ite h (fun g1 h => ?_) (fun g1 h => ?_)
  · refine x_if_eq (tgt := 11) (pc' := 7) dX12_cellOf_4 (by decide) rfl (fun _ => ?_) (fun hn => absurd g1 hn)
    refine x_iconst (pc' := 12) (x := 3) dX12_cellOf_11 (by decide) rfl ?_
    exact r_X12_cellOf_12 _ _ _ _ _ _ _ _ _ h
  · refine x_if_eq (tgt := 11) (pc' := 7) dX12_cellOf_4 (by decide) rfl (fun hn => absurd hn g1) (fun _ => ?_)
    refine x_iconst (pc' := 8) (x := 1) dX12_cellOf_7 (by decide) rfl ?_
    refine x_goto (tgt := 12) dX12_cellOf_8 (by decide) ?_
    exact r_X12_cellOf_12 _ _ _ _ _ _ _ _ _ h
def F_X12_touches_24 (hi : Nat → Nat → Int32) (hl : Nat → Nat → Int64) (r : xRr) : Option (Int32 × xSt) := some ((1 : Int32), hi, hl, r)
set_option maxRecDepth 20000 in
set_option maxHeartbeats 2000000 in
theorem r_X12_touches_24 (d1 : Option Value) (d2 : Option Value) (hi : Nat → Nat → Int32) (hl : Nat → Nat → Int64) (r : xRr) (o : Int32 × xSt) (h : F_X12_touches_24 hi hl r = some o) : xR (RX12, cX12_touches, 3, false, 3) (4, 0, 0) z 0 0 24 [some (.ref 90), d1, d2] [] (xhp hi hl r) (xoI o) := by
  refine x_iconst (pc' := 25) (x := 1) dX12_touches_24 (by decide) rfl ?_
  refine x_goto (tgt := 29) dX12_touches_25 (by decide) ?_
  obtain rfl := Option.some.inj h
  exact x_zret dX12_touches_29 rfl (Or.inr rfl) rfl (Nat.le_of_ble_eq_true rfl) rfl
def F_X12_touches (v1 : Int32) (v2 : Int32) (hi : Nat → Nat → Int32) (hl : Nat → Nat → Int64) (r : xRr) : Option (Int32 × xSt) := if v2 < 0 then some ((0 : Int32), hi, hl, r) else xbI (F_X12_cellOf v1 (1 : Int32) hi hl r) (fun w3 hi3 hl3 r3 => if w3 = v2 then F_X12_touches_24 hi3 hl3 r3 else xbI (F_X12_cellOf v1 (0 : Int32) hi3 hl3 r3) (fun w6 hi6 hl6 r6 => if w6 = v2 then F_X12_touches_24 hi6 hl6 r6 else some ((0 : Int32), hi6, hl6, r6)))
set_option maxRecDepth 20000 in
set_option maxHeartbeats 2000000 in
theorem r_X12_touches (v1 : Int32) (v2 : Int32) (hi : Nat → Nat → Int32) (hl : Nat → Nat → Int64) (r : xRr) (o : Int32 × xSt) (h : F_X12_touches v1 v2 hi hl r = some o) : xM yX12_touches cX12_touches 3 3 (4, 0, 0) z [.ref 90, .int v1, .int v2] (xhp hi hl r) (xoI o) := by
  refine x_meth2 (C := RX12) (ini := false) (L := [some (.ref 90), some (.int v1), some (.int v2)]) rfl (by decide) (fun h9 => by cases h9) (by decide) (Nat.le_of_ble_eq_true rfl) rfl ?_
  refine x_iload_n (pc' := 1) dX12_touches_0 rfl rfl ?_
  refine xg_ite h (fun g1 h => ?_) (fun g1 h => ?_)
  · refine x_if_lt (tgt := 28) (pc' := 4) dX12_touches_1 (by decide) rfl (fun _ => ?_) (fun hn => absurd g1 hn)
    refine x_iconst (pc' := 29) (x := 0) dX12_touches_28 (by decide) rfl ?_
    obtain rfl := Option.some.inj h
    exact x_zret dX12_touches_29 rfl (Or.inl rfl) rfl (Nat.le_of_ble_eq_true rfl) rfl
  · refine x_if_lt (tgt := 28) (pc' := 4) dX12_touches_1 (by decide) rfl (fun hn => absurd hn g1) (fun _ => ?_)
    refine x_aload_n (pc' := 5) dX12_touches_4 rfl rfl ?_
    refine x_iload_n (pc' := 6) dX12_touches_5 rfl rfl ?_
    refine x_iconst (pc' := 7) (x := 1) dX12_touches_6 (by decide) rfl ?_
    refine xg_bI h (fun w3 hi3 hl3 r3 e2 h => ?_)
    refine x_callV (pc' := 10) (S := []) (As := [.int v1, .int (1 : Int32)]) (b' := (3, 0, 0)) dX12_touches_7 l_X12_337 m_X12_cellOf rfl rfl (show 90 < 122 by decide) rfl (Nat.le_of_ble_eq_true rfl) (Nat.le_of_ble_eq_true rfl) (Nat.le_of_ble_eq_true rfl) (Nat.le_of_ble_eq_true rfl) (r_X12_cellOf _ _ _ _ _ _ e2) rfl ?_
    refine x_iload_n (pc' := 11) dX12_touches_10 rfl rfl ?_
    refine xg_ite h (fun g4 h => ?_) (fun g4 h => ?_)
    · refine x_icmp_eq (tgt := 24) (pc' := 14) dX12_touches_11 (by decide) rfl (fun _ => ?_) (fun hn => absurd g4 hn)
      exact r_X12_touches_24 _ _ _ _ _ _ h
    · refine x_icmp_eq (tgt := 24) (pc' := 14) dX12_touches_11 (by decide) rfl (fun hn => absurd hn g4) (fun _ => ?_)
      refine x_aload_n (pc' := 15) dX12_touches_14 rfl rfl ?_
      refine x_iload_n (pc' := 16) dX12_touches_15 rfl rfl ?_
      refine x_iconst (pc' := 17) (x := 0) dX12_touches_16 (by decide) rfl ?_
      refine xg_bI h (fun w6 hi6 hl6 r6 e5 h => ?_)
      refine x_callV (pc' := 20) (S := []) (As := [.int v1, .int (0 : Int32)]) (b' := (3, 0, 0)) dX12_touches_17 l_X12_337 m_X12_cellOf rfl rfl (show 90 < 122 by decide) rfl (Nat.le_of_ble_eq_true rfl) (Nat.le_of_ble_eq_true rfl) (Nat.le_of_ble_eq_true rfl) (Nat.le_of_ble_eq_true rfl) (r_X12_cellOf _ _ _ _ _ _ e5) rfl ?_
      refine x_iload_n (pc' := 21) dX12_touches_20 rfl rfl ?_
      refine xg_ite h (fun g7 h => ?_) (fun g7 h => ?_)
      · refine x_icmp_ne (tgt := 28) (pc' := 24) dX12_touches_21 (by decide) rfl (fun hn => absurd g7 hn) (fun _ => ?_)
        exact r_X12_touches_24 _ _ _ _ _ _ h
      · refine x_icmp_ne (tgt := 28) (pc' := 24) dX12_touches_21 (by decide) rfl (fun _ => ?_) (fun hn => absurd hn g7)
        refine x_iconst (pc' := 29) (x := 0) dX12_touches_28 (by decide) rfl ?_
        obtain rfl := Option.some.inj h
        exact x_zret dX12_touches_29 rfl (Or.inl rfl) rfl (Nat.le_of_ble_eq_true rfl) rfl
def F_X12_clash_80 (hi : Nat → Nat → Int32) (hl : Nat → Nat → Int64) (r : xRr) : Option (Int32 × xSt) := some ((1 : Int32), hi, hl, r)
set_option maxRecDepth 20000 in
set_option maxHeartbeats 2000000 in
theorem r_X12_clash_80 (d1 : Option Value) (d2 : Option Value) (hi : Nat → Nat → Int32) (hl : Nat → Nat → Int64) (r : xRr) (o : Int32 × xSt) (h : F_X12_clash_80 hi hl r = some o) : xR (RX12, cX12_clash, 3, false, 3) (5, 0, 0) z 0 0 80 [some (.ref 90), d1, d2] [] (xhp hi hl r) (xoI o) := by
  refine x_iconst (pc' := 81) (x := 1) dX12_clash_80 (by decide) rfl ?_
  refine x_goto (tgt := 85) dX12_clash_81 (by decide) ?_
  obtain rfl := Option.some.inj h
  exact x_zret dX12_clash_85 rfl (Or.inr rfl) rfl (Nat.le_of_ble_eq_true rfl) rfl
def F_X12_clash_54 (v1 : Int32) (v2 : Int32) (hi : Nat → Nat → Int32) (hl : Nat → Nat → Int64) (r : xRr) : Option (Int32 × xSt) := if xok ((5 : Int32) * v2) 80 = true then if (hi 107 (Int32.toNatClampNeg ((5 : Int32) * v2))) = (4 : Int32) then xbI (F_X12_cellOf v2 (1 : Int32) hi hl r) (fun w4 hi4 hl4 r4 => xbI (F_X12_touches v1 w4 hi4 hl4 r4) (fun w6 hi6 hl6 r6 => if w6 = 0 then some ((0 : Int32), hi6, hl6, r6) else F_X12_clash_80 hi6 hl6 r6)) else some ((0 : Int32), hi, hl, r) else none
set_option maxRecDepth 20000 in
set_option maxHeartbeats 2000000 in
theorem r_X12_clash_54 (v1 : Int32) (v2 : Int32) (hi : Nat → Nat → Int32) (hl : Nat → Nat → Int64) (r : xRr) (o : Int32 × xSt) (h : F_X12_clash_54 v1 v2 hi hl r = some o) : xR (RX12, cX12_clash, 3, false, 3) (5, 0, 0) z 0 0 54 [some (.ref 90), some (.int v1), some (.int v2)] [] (xhp hi hl r) (xoI o) := by
  refine x_aload_n (pc' := 55) dX12_clash_54 rfl rfl ?_
  refine x_getr (pc' := 58) (t := 107) dX12_clash_55 f_X12_63 (by decide) rfl rfl rfl rfl ?_
  refine x_iconst (pc' := 59) (x := 5) dX12_clash_58 (by decide) rfl ?_
  refine x_iload_n (pc' := 60) dX12_clash_59 rfl rfl ?_
  refine x_imul (pc' := 61) dX12_clash_60 rfl ?_
  refine xg_if h (fun g1 h => ?_)
  refine x_iald (pc' := 62) dX12_clash_61 (by decide) rfl (xok_in g1) rfl ?_
  refine x_iconst (pc' := 63) (x := 4) dX12_clash_62 (by decide) rfl ?_
  refine xg_ite h (fun g2 h => ?_) (fun g2 h => ?_)
  · refine x_icmp_ne (tgt := 84) (pc' := 66) dX12_clash_63 (by decide) rfl (fun hn => absurd g2 hn) (fun _ => ?_)
    refine x_aload_n (pc' := 67) dX12_clash_66 rfl rfl ?_
    refine x_iload_n (pc' := 68) dX12_clash_67 rfl rfl ?_
    refine x_aload_n (pc' := 69) dX12_clash_68 rfl rfl ?_
    refine x_iload_n (pc' := 70) dX12_clash_69 rfl rfl ?_
    refine x_iconst (pc' := 71) (x := 1) dX12_clash_70 (by decide) rfl ?_
    refine xg_bI h (fun w4 hi4 hl4 r4 e3 h => ?_)
    refine x_callV (pc' := 74) (S := [.int v1, .ref 90]) (As := [.int v2, .int (1 : Int32)]) (b' := (3, 0, 0)) dX12_clash_71 l_X12_337 m_X12_cellOf rfl rfl (show 90 < 122 by decide) rfl (Nat.le_of_ble_eq_true rfl) (Nat.le_of_ble_eq_true rfl) (Nat.le_of_ble_eq_true rfl) (Nat.le_of_ble_eq_true rfl) (r_X12_cellOf _ _ _ _ _ _ e3) rfl ?_
    refine xg_bI h (fun w6 hi6 hl6 r6 e5 h => ?_)
    refine x_callV (pc' := 77) (S := []) (As := [.int v1, .int w4]) (b' := (4, 0, 0)) dX12_clash_74 l_X12_341 m_X12_touches rfl rfl (show 90 < 122 by decide) rfl (Nat.le_of_ble_eq_true rfl) (Nat.le_of_ble_eq_true rfl) (Nat.le_of_ble_eq_true rfl) (Nat.le_of_ble_eq_true rfl) (r_X12_touches _ _ _ _ _ _ e5) rfl ?_
    refine xg_ite h (fun g7 h => ?_) (fun g7 h => ?_)
    · refine x_if_eq (tgt := 84) (pc' := 80) dX12_clash_77 (by decide) rfl (fun _ => ?_) (fun hn => absurd g7 hn)
      refine x_iconst (pc' := 85) (x := 0) dX12_clash_84 (by decide) rfl ?_
      obtain rfl := Option.some.inj h
      exact x_zret dX12_clash_85 rfl (Or.inl rfl) rfl (Nat.le_of_ble_eq_true rfl) rfl
    · refine x_if_eq (tgt := 84) (pc' := 80) dX12_clash_77 (by decide) rfl (fun hn => absurd hn g7) (fun _ => ?_)
      exact r_X12_clash_80 _ _ _ _ _ _ h
  · refine x_icmp_ne (tgt := 84) (pc' := 66) dX12_clash_63 (by decide) rfl (fun _ => ?_) (fun hn => absurd hn g2)
    refine x_iconst (pc' := 85) (x := 0) dX12_clash_84 (by decide) rfl ?_
    obtain rfl := Option.some.inj h
    exact x_zret dX12_clash_85 rfl (Or.inl rfl) rfl (Nat.le_of_ble_eq_true rfl) rfl
def F_X12_clash (v1 : Int32) (v2 : Int32) (hi : Nat → Nat → Int32) (hl : Nat → Nat → Int64) (r : xRr) : Option (Int32 × xSt) := xbI (F_X12_cellOf v1 (0 : Int32) hi hl r) (fun w2 hi2 hl2 r2 => xbI (F_X12_touches v2 w2 hi2 hl2 r2) (fun w4 hi4 hl4 r4 => if w4 = 0 then xbI (F_X12_cellOf v2 (0 : Int32) hi4 hl4 r4) (fun w7 hi7 hl7 r7 => xbI (F_X12_touches v1 w7 hi7 hl7 r7) (fun w9 hi9 hl9 r9 => if w9 = 0 then if xok ((5 : Int32) * v1) 80 = true then if (hi9 107 (Int32.toNatClampNeg ((5 : Int32) * v1))) = (4 : Int32) then xbI (F_X12_cellOf v1 (1 : Int32) hi9 hl9 r9) (fun w14 hi14 hl14 r14 => xbI (F_X12_touches v2 w14 hi14 hl14 r14) (fun w16 hi16 hl16 r16 => if w16 = 0 then F_X12_clash_54 v1 v2 hi16 hl16 r16 else F_X12_clash_80 hi16 hl16 r16)) else F_X12_clash_54 v1 v2 hi9 hl9 r9 else none else F_X12_clash_80 hi9 hl9 r9)) else F_X12_clash_80 hi4 hl4 r4))
set_option maxRecDepth 20000 in
set_option maxHeartbeats 2000000 in
theorem r_X12_clash (v1 : Int32) (v2 : Int32) (hi : Nat → Nat → Int32) (hl : Nat → Nat → Int64) (r : xRr) (o : Int32 × xSt) (h : F_X12_clash v1 v2 hi hl r = some o) : xM yX12_clash cX12_clash 3 3 (5, 0, 0) z [.ref 90, .int v1, .int v2] (xhp hi hl r) (xoI o) := by
  refine x_meth2 (C := RX12) (ini := false) (L := [some (.ref 90), some (.int v1), some (.int v2)]) rfl (by decide) (fun h9 => by cases h9) (by decide) (Nat.le_of_ble_eq_true rfl) rfl ?_
  refine x_aload_n (pc' := 1) dX12_clash_0 rfl rfl ?_
  refine x_iload_n (pc' := 2) dX12_clash_1 rfl rfl ?_
  refine x_aload_n (pc' := 3) dX12_clash_2 rfl rfl ?_
  refine x_iload_n (pc' := 4) dX12_clash_3 rfl rfl ?_
  refine x_iconst (pc' := 5) (x := 0) dX12_clash_4 (by decide) rfl ?_
  refine xg_bI h (fun w2 hi2 hl2 r2 e1 h => ?_)
  refine x_callV (pc' := 8) (S := [.int v2, .ref 90]) (As := [.int v1, .int (0 : Int32)]) (b' := (3, 0, 0)) dX12_clash_5 l_X12_337 m_X12_cellOf rfl rfl (show 90 < 122 by decide) rfl (Nat.le_of_ble_eq_true rfl) (Nat.le_of_ble_eq_true rfl) (Nat.le_of_ble_eq_true rfl) (Nat.le_of_ble_eq_true rfl) (r_X12_cellOf _ _ _ _ _ _ e1) rfl ?_
  refine xg_bI h (fun w4 hi4 hl4 r4 e3 h => ?_)
  refine x_callV (pc' := 11) (S := []) (As := [.int v2, .int w2]) (b' := (4, 0, 0)) dX12_clash_8 l_X12_341 m_X12_touches rfl rfl (show 90 < 122 by decide) rfl (Nat.le_of_ble_eq_true rfl) (Nat.le_of_ble_eq_true rfl) (Nat.le_of_ble_eq_true rfl) (Nat.le_of_ble_eq_true rfl) (r_X12_touches _ _ _ _ _ _ e3) rfl ?_
  refine xg_ite h (fun g5 h => ?_) (fun g5 h => ?_)
  · refine x_if_ne (tgt := 80) (pc' := 14) dX12_clash_11 (by decide) rfl (fun hn => absurd g5 hn) (fun _ => ?_)
    refine x_aload_n (pc' := 15) dX12_clash_14 rfl rfl ?_
    refine x_iload_n (pc' := 16) dX12_clash_15 rfl rfl ?_
    refine x_aload_n (pc' := 17) dX12_clash_16 rfl rfl ?_
    refine x_iload_n (pc' := 18) dX12_clash_17 rfl rfl ?_
    refine x_iconst (pc' := 19) (x := 0) dX12_clash_18 (by decide) rfl ?_
    refine xg_bI h (fun w7 hi7 hl7 r7 e6 h => ?_)
    refine x_callV (pc' := 22) (S := [.int v1, .ref 90]) (As := [.int v2, .int (0 : Int32)]) (b' := (3, 0, 0)) dX12_clash_19 l_X12_337 m_X12_cellOf rfl rfl (show 90 < 122 by decide) rfl (Nat.le_of_ble_eq_true rfl) (Nat.le_of_ble_eq_true rfl) (Nat.le_of_ble_eq_true rfl) (Nat.le_of_ble_eq_true rfl) (r_X12_cellOf _ _ _ _ _ _ e6) rfl ?_
    refine xg_bI h (fun w9 hi9 hl9 r9 e8 h => ?_)
    refine x_callV (pc' := 25) (S := []) (As := [.int v1, .int w7]) (b' := (4, 0, 0)) dX12_clash_22 l_X12_341 m_X12_touches rfl rfl (show 90 < 122 by decide) rfl (Nat.le_of_ble_eq_true rfl) (Nat.le_of_ble_eq_true rfl) (Nat.le_of_ble_eq_true rfl) (Nat.le_of_ble_eq_true rfl) (r_X12_touches _ _ _ _ _ _ e8) rfl ?_
    refine xg_ite h (fun g10 h => ?_) (fun g10 h => ?_)
    · refine x_if_ne (tgt := 80) (pc' := 28) dX12_clash_25 (by decide) rfl (fun hn => absurd g10 hn) (fun _ => ?_)
      refine x_aload_n (pc' := 29) dX12_clash_28 rfl rfl ?_
      refine x_getr (pc' := 32) (t := 107) dX12_clash_29 f_X12_63 (by decide) rfl rfl rfl rfl ?_
      refine x_iconst (pc' := 33) (x := 5) dX12_clash_32 (by decide) rfl ?_
      refine x_iload_n (pc' := 34) dX12_clash_33 rfl rfl ?_
      refine x_imul (pc' := 35) dX12_clash_34 rfl ?_
      refine xg_if h (fun g11 h => ?_)
      refine x_iald (pc' := 36) dX12_clash_35 (by decide) rfl (xok_in g11) rfl ?_
      refine x_iconst (pc' := 37) (x := 4) dX12_clash_36 (by decide) rfl ?_
      refine xg_ite h (fun g12 h => ?_) (fun g12 h => ?_)
      · refine x_icmp_ne (tgt := 54) (pc' := 40) dX12_clash_37 (by decide) rfl (fun hn => absurd g12 hn) (fun _ => ?_)
        refine x_aload_n (pc' := 41) dX12_clash_40 rfl rfl ?_
        refine x_iload_n (pc' := 42) dX12_clash_41 rfl rfl ?_
        refine x_aload_n (pc' := 43) dX12_clash_42 rfl rfl ?_
        refine x_iload_n (pc' := 44) dX12_clash_43 rfl rfl ?_
        refine x_iconst (pc' := 45) (x := 1) dX12_clash_44 (by decide) rfl ?_
        refine xg_bI h (fun w14 hi14 hl14 r14 e13 h => ?_)
        refine x_callV (pc' := 48) (S := [.int v2, .ref 90]) (As := [.int v1, .int (1 : Int32)]) (b' := (3, 0, 0)) dX12_clash_45 l_X12_337 m_X12_cellOf rfl rfl (show 90 < 122 by decide) rfl (Nat.le_of_ble_eq_true rfl) (Nat.le_of_ble_eq_true rfl) (Nat.le_of_ble_eq_true rfl) (Nat.le_of_ble_eq_true rfl) (r_X12_cellOf _ _ _ _ _ _ e13) rfl ?_
        refine xg_bI h (fun w16 hi16 hl16 r16 e15 h => ?_)
        refine x_callV (pc' := 51) (S := []) (As := [.int v2, .int w14]) (b' := (4, 0, 0)) dX12_clash_48 l_X12_341 m_X12_touches rfl rfl (show 90 < 122 by decide) rfl (Nat.le_of_ble_eq_true rfl) (Nat.le_of_ble_eq_true rfl) (Nat.le_of_ble_eq_true rfl) (Nat.le_of_ble_eq_true rfl) (r_X12_touches _ _ _ _ _ _ e15) rfl ?_
        refine xg_ite h (fun g17 h => ?_) (fun g17 h => ?_)
        · refine x_if_ne (tgt := 80) (pc' := 54) dX12_clash_51 (by decide) rfl (fun hn => absurd g17 hn) (fun _ => ?_)
          exact r_X12_clash_54 _ _ _ _ _ _ h
        · refine x_if_ne (tgt := 80) (pc' := 54) dX12_clash_51 (by decide) rfl (fun _ => ?_) (fun hn => absurd hn g17)
          exact r_X12_clash_80 _ _ _ _ _ _ h
      · refine x_icmp_ne (tgt := 54) (pc' := 40) dX12_clash_37 (by decide) rfl (fun _ => ?_) (fun hn => absurd hn g12)
        exact r_X12_clash_54 _ _ _ _ _ _ h
    · refine x_if_ne (tgt := 80) (pc' := 28) dX12_clash_25 (by decide) rfl (fun _ => ?_) (fun hn => absurd hn g10)
      exact r_X12_clash_80 _ _ _ _ _ _ h
  · refine x_if_ne (tgt := 80) (pc' := 14) dX12_clash_11 (by decide) rfl (fun _ => ?_) (fun hn => absurd hn g5)
    exact r_X12_clash_80 _ _ _ _ _ _ h
def F_X12_waves_70 (K2 : Int32 → (Nat → Nat → Int32) → (Nat → Nat → Int64) → xRr → Option (xSt)) (K19 : Int32 → Int32 → (Nat → Nat → Int32) → (Nat → Nat → Int64) → xRr → Option (xSt)) (v1 : Int32) (v2 : Int32) (s1 : Int32) (s2 : Int32) (hi : Nat → Nat → Int32) (hl : Nat → Nat → Int64) (r : xRr) : Option (xSt) := if xok s1 16 = true then K19 v1 (v2 + (1)) (xu hi 119 (Int32.toNatClampNeg s1) s2) hl r else none
set_option maxRecDepth 20000 in
set_option maxHeartbeats 2000000 in
theorem r_X12_waves_70 (K2 : Int32 → (Nat → Nat → Int32) → (Nat → Nat → Int64) → xRr → Option (xSt)) (hK2 : ∀ (v1 : Int32) (d2 : Option Value) (hi : Nat → Nat → Int32) (hl : Nat → Nat → Int64) (r : xRr) (o : xSt), K2 v1 hi hl r = some o → xR (RX12, cX12_waves, 3, false, 0) (6, 0, 0) z 0 0 2 [some (.ref 90), some (.int v1), d2] [] (xhp hi hl r) (xoV o)) (K19 : Int32 → Int32 → (Nat → Nat → Int32) → (Nat → Nat → Int64) → xRr → Option (xSt)) (hK19 : ∀ (v1 : Int32) (v2 : Int32) (hi : Nat → Nat → Int32) (hl : Nat → Nat → Int64) (r : xRr) (o : xSt), K19 v1 v2 hi hl r = some o → xR (RX12, cX12_waves, 3, false, 0) (6, 0, 0) z 0 0 19 [some (.ref 90), some (.int v1), some (.int v2)] [] (xhp hi hl r) (xoV o)) (v1 : Int32) (v2 : Int32) (s1 : Int32) (s2 : Int32) (hi : Nat → Nat → Int32) (hl : Nat → Nat → Int64) (r : xRr) (o : xSt) (h : F_X12_waves_70 K2 K19 v1 v2 s1 s2 hi hl r = some o) : xR (RX12, cX12_waves, 3, false, 0) (6, 0, 0) z 0 0 70 [some (.ref 90), some (.int v1), some (.int v2)] [.int s2, .int s1, .ref 119] (xhp hi hl r) (xoV o) := by
  refine xg_if h (fun g1 h => ?_)
  refine x_iast (pc' := 71) dX12_waves_70 (by decide) rfl (xok_in g1) rfl ?_
  refine x_iinc (pc' := 74) (v := (v2 + (1))) (L' := [some (.ref 90), some (.int v1), some (.int (v2 + (1)))]) dX12_waves_71 rfl rfl (Nat.le_of_ble_eq_true rfl) rfl rfl ?_
  refine x_goto (tgt := 19) dX12_waves_74 (by decide) ?_
  exact hK19 _ _ _ _ _ _ h
def F_X12_waves_64 (K2 : Int32 → (Nat → Nat → Int32) → (Nat → Nat → Int64) → xRr → Option (xSt)) (K19 : Int32 → Int32 → (Nat → Nat → Int32) → (Nat → Nat → Int64) → xRr → Option (xSt)) (v1 : Int32) (v2 : Int32) (s1 : Int32) (hi : Nat → Nat → Int32) (hl : Nat → Nat → Int64) (r : xRr) : Option (xSt) := if xok v1 16 = true then F_X12_waves_70 K2 K19 v1 v2 s1 (hi 119 (Int32.toNatClampNeg v1)) hi hl r else none
set_option maxRecDepth 20000 in
set_option maxHeartbeats 2000000 in
theorem r_X12_waves_64 (K2 : Int32 → (Nat → Nat → Int32) → (Nat → Nat → Int64) → xRr → Option (xSt)) (hK2 : ∀ (v1 : Int32) (d2 : Option Value) (hi : Nat → Nat → Int32) (hl : Nat → Nat → Int64) (r : xRr) (o : xSt), K2 v1 hi hl r = some o → xR (RX12, cX12_waves, 3, false, 0) (6, 0, 0) z 0 0 2 [some (.ref 90), some (.int v1), d2] [] (xhp hi hl r) (xoV o)) (K19 : Int32 → Int32 → (Nat → Nat → Int32) → (Nat → Nat → Int64) → xRr → Option (xSt)) (hK19 : ∀ (v1 : Int32) (v2 : Int32) (hi : Nat → Nat → Int32) (hl : Nat → Nat → Int64) (r : xRr) (o : xSt), K19 v1 v2 hi hl r = some o → xR (RX12, cX12_waves, 3, false, 0) (6, 0, 0) z 0 0 19 [some (.ref 90), some (.int v1), some (.int v2)] [] (xhp hi hl r) (xoV o)) (v1 : Int32) (v2 : Int32) (s1 : Int32) (hi : Nat → Nat → Int32) (hl : Nat → Nat → Int64) (r : xRr) (o : xSt) (h : F_X12_waves_64 K2 K19 v1 v2 s1 hi hl r = some o) : xR (RX12, cX12_waves, 3, false, 0) (6, 0, 0) z 0 0 64 [some (.ref 90), some (.int v1), some (.int v2)] [.int s1, .ref 119] (xhp hi hl r) (xoV o) := by
  refine x_aload_n (pc' := 65) dX12_waves_64 rfl rfl ?_
  refine x_getr (pc' := 68) (t := 119) dX12_waves_65 f_X12_100 (by decide) rfl rfl rfl rfl ?_
  refine x_iload_n (pc' := 69) dX12_waves_68 rfl rfl ?_
  refine xg_if h (fun g1 h => ?_)
  refine x_iald (pc' := 70) dX12_waves_69 (by decide) rfl (xok_in g1) rfl ?_
  exact r_X12_waves_70 K2 hK2 K19 hK19 _ _ _ _ _ _ _ _ h
def F_X12_waves_19 (K2 : Int32 → (Nat → Nat → Int32) → (Nat → Nat → Int64) → xRr → Option (xSt)) : Nat → Int32 → Int32 → (Nat → Nat → Int32) → (Nat → Nat → Int64) → xRr → Option (xSt)
  | 0, _, _, _, _, _ => none
  | n + 1, v1, v2, hi, hl, r => if v1 ≤ v2 then K2 (v1 + (1)) hi hl r else xbI (F_X12_clash v2 v1 hi hl r) (fun w3 hi3 hl3 r3 => if w3 = 0 then F_X12_waves_64 K2 (F_X12_waves_19 K2 n) v1 v2 v1 hi3 hl3 r3 else if xok v2 16 = true then if xok v1 16 = true then if (hi3 119 (Int32.toNatClampNeg v2)) < (hi3 119 (Int32.toNatClampNeg v1)) then F_X12_waves_64 K2 (F_X12_waves_19 K2 n) v1 v2 v1 hi3 hl3 r3 else F_X12_waves_70 K2 (F_X12_waves_19 K2 n) v1 v2 v1 ((hi3 119 (Int32.toNatClampNeg v2)) + (1 : Int32)) hi3 hl3 r3 else none else none)
set_option maxRecDepth 20000 in
set_option maxHeartbeats 2000000 in
theorem r_X12_waves_19 (K2 : Int32 → (Nat → Nat → Int32) → (Nat → Nat → Int64) → xRr → Option (xSt)) (hK2 : ∀ (v1 : Int32) (d2 : Option Value) (hi : Nat → Nat → Int32) (hl : Nat → Nat → Int64) (r : xRr) (o : xSt), K2 v1 hi hl r = some o → xR (RX12, cX12_waves, 3, false, 0) (6, 0, 0) z 0 0 2 [some (.ref 90), some (.int v1), d2] [] (xhp hi hl r) (xoV o)) : ∀ (n : Nat) (v1 : Int32) (v2 : Int32) (hi : Nat → Nat → Int32) (hl : Nat → Nat → Int64) (r : xRr) (o : xSt), F_X12_waves_19 K2 n v1 v2 hi hl r = some o → xR (RX12, cX12_waves, 3, false, 0) (6, 0, 0) z 0 0 19 [some (.ref 90), some (.int v1), some (.int v2)] [] (xhp hi hl r) (xoV o) := by
  intro n
  induction n with
  | zero =>
    intro v1 v2 hi hl r o h
    have h : none = some o := h
    cases h
  | succ n ih =>
    intro v1 v2 hi hl r o h
    refine x_iload_n (pc' := 20) dX12_waves_19 rfl rfl ?_
    refine x_iload_n (pc' := 21) dX12_waves_20 rfl rfl ?_
    refine xg_ite h (fun g1 h => ?_) (fun g1 h => ?_)
    · refine x_icmp_ge (tgt := 77) (pc' := 24) dX12_waves_21 (by decide) rfl (fun _ => ?_) (fun hn => absurd g1 hn)
      refine x_iinc (pc' := 80) (v := (v1 + (1))) (L' := [some (.ref 90), some (.int (v1 + (1))), some (.int v2)]) dX12_waves_77 rfl rfl (Nat.le_of_ble_eq_true rfl) rfl rfl ?_
      refine x_goto (tgt := 2) dX12_waves_80 (by decide) ?_
      exact hK2 _ _ _ _ _ _ h
    · refine x_icmp_ge (tgt := 77) (pc' := 24) dX12_waves_21 (by decide) rfl (fun hn => absurd hn g1) (fun _ => ?_)
      refine x_aload_n (pc' := 25) dX12_waves_24 rfl rfl ?_
      refine x_getr (pc' := 28) (t := 119) dX12_waves_25 f_X12_100 (by decide) rfl rfl rfl rfl ?_
      refine x_iload_n (pc' := 29) dX12_waves_28 rfl rfl ?_
      refine x_aload_n (pc' := 30) dX12_waves_29 rfl rfl ?_
      refine x_iload_n (pc' := 31) dX12_waves_30 rfl rfl ?_
      refine x_iload_n (pc' := 32) dX12_waves_31 rfl rfl ?_
      refine xg_bI h (fun w3 hi3 hl3 r3 e2 h => ?_)
      refine x_callV (pc' := 35) (S := [.int v1, .ref 119]) (As := [.int v2, .int v1]) (b' := (5, 0, 0)) dX12_waves_32 l_X12_344 m_X12_clash rfl rfl (show 90 < 122 by decide) rfl (Nat.le_of_ble_eq_true rfl) (Nat.le_of_ble_eq_true rfl) (Nat.le_of_ble_eq_true rfl) (Nat.le_of_ble_eq_true rfl) (r_X12_clash _ _ _ _ _ _ e2) rfl ?_
      refine xg_ite h (fun g4 h => ?_) (fun g4 h => ?_)
      · refine x_if_eq (tgt := 64) (pc' := 38) dX12_waves_35 (by decide) rfl (fun _ => ?_) (fun hn => absurd g4 hn)
        exact r_X12_waves_64 K2 hK2 (F_X12_waves_19 K2 n) ih _ _ _ _ _ _ _ h
      · refine x_if_eq (tgt := 64) (pc' := 38) dX12_waves_35 (by decide) rfl (fun hn => absurd hn g4) (fun _ => ?_)
        refine x_aload_n (pc' := 39) dX12_waves_38 rfl rfl ?_
        refine x_getr (pc' := 42) (t := 119) dX12_waves_39 f_X12_100 (by decide) rfl rfl rfl rfl ?_
        refine x_iload_n (pc' := 43) dX12_waves_42 rfl rfl ?_
        refine xg_if h (fun g5 h => ?_)
        refine x_iald (pc' := 44) dX12_waves_43 (by decide) rfl (xok_in g5) rfl ?_
        refine x_aload_n (pc' := 45) dX12_waves_44 rfl rfl ?_
        refine x_getr (pc' := 48) (t := 119) dX12_waves_45 f_X12_100 (by decide) rfl rfl rfl rfl ?_
        refine x_iload_n (pc' := 49) dX12_waves_48 rfl rfl ?_
        refine xg_if h (fun g6 h => ?_)
        refine x_iald (pc' := 50) dX12_waves_49 (by decide) rfl (xok_in g6) rfl ?_
        refine xg_ite h (fun g7 h => ?_) (fun g7 h => ?_)
        · refine x_icmp_lt (tgt := 64) (pc' := 53) dX12_waves_50 (by decide) rfl (fun _ => ?_) (fun hn => absurd g7 hn)
          exact r_X12_waves_64 K2 hK2 (F_X12_waves_19 K2 n) ih _ _ _ _ _ _ _ h
        · refine x_icmp_lt (tgt := 64) (pc' := 53) dX12_waves_50 (by decide) rfl (fun hn => absurd hn g7) (fun _ => ?_)
          refine x_aload_n (pc' := 54) dX12_waves_53 rfl rfl ?_
          refine x_getr (pc' := 57) (t := 119) dX12_waves_54 f_X12_100 (by decide) rfl rfl rfl rfl ?_
          refine x_iload_n (pc' := 58) dX12_waves_57 rfl rfl ?_
          refine x_iald (pc' := 59) dX12_waves_58 (by decide) rfl (xok_in g5) rfl ?_
          refine x_iconst (pc' := 60) (x := 1) dX12_waves_59 (by decide) rfl ?_
          refine x_iadd (pc' := 61) dX12_waves_60 rfl ?_
          refine x_goto (tgt := 70) dX12_waves_61 (by decide) ?_
          exact r_X12_waves_70 K2 hK2 (F_X12_waves_19 K2 n) ih _ _ _ _ _ _ _ _ h
def F_X12_waves_2 : Nat → Int32 → (Nat → Nat → Int32) → (Nat → Nat → Int64) → xRr → Option (xSt)
  | 0, _, _, _, _ => none
  | n + 1, v1, hi, hl, r => if (hi 90 22) ≤ v1 then some (hi, hl, r) else if xok v1 16 = true then F_X12_waves_19 (F_X12_waves_2 n) 1000000 v1 (0 : Int32) (xu hi 119 (Int32.toNatClampNeg v1) (0 : Int32)) hl r else none
set_option maxRecDepth 20000 in
set_option maxHeartbeats 2000000 in
theorem r_X12_waves_2 : ∀ (n : Nat) (v1 : Int32) (d2 : Option Value) (hi : Nat → Nat → Int32) (hl : Nat → Nat → Int64) (r : xRr) (o : xSt), F_X12_waves_2 n v1 hi hl r = some o → xR (RX12, cX12_waves, 3, false, 0) (6, 0, 0) z 0 0 2 [some (.ref 90), some (.int v1), d2] [] (xhp hi hl r) (xoV o) := by
  intro n
  induction n with
  | zero =>
    intro v1 d2 hi hl r o h
    have h : none = some o := h
    cases h
  | succ n ih =>
    intro v1 d2 hi hl r o h
    refine x_iload_n (pc' := 3) dX12_waves_2 rfl rfl ?_
    refine x_aload_n (pc' := 4) dX12_waves_3 rfl rfl ?_
    refine x_geti (pc' := 7) dX12_waves_4 f_X12_172 (by decide) rfl rfl rfl ?_
    refine xg_ite h (fun g1 h => ?_) (fun g1 h => ?_)
    · refine x_icmp_ge (tgt := 83) (pc' := 10) dX12_waves_7 (by decide) rfl (fun _ => ?_) (fun hn => absurd g1 hn)
      obtain rfl := Option.some.inj h
      exact x_vret dX12_waves_83 rfl rfl (Nat.le_of_ble_eq_true rfl) rfl
    · refine x_icmp_ge (tgt := 83) (pc' := 10) dX12_waves_7 (by decide) rfl (fun hn => absurd hn g1) (fun _ => ?_)
      refine x_aload_n (pc' := 11) dX12_waves_10 rfl rfl ?_
      refine x_getr (pc' := 14) (t := 119) dX12_waves_11 f_X12_100 (by decide) rfl rfl rfl rfl ?_
      refine x_iload_n (pc' := 15) dX12_waves_14 rfl rfl ?_
      refine x_iconst (pc' := 16) (x := 0) dX12_waves_15 (by decide) rfl ?_
      refine xg_if h (fun g2 h => ?_)
      refine x_iast (pc' := 17) dX12_waves_16 (by decide) rfl (xok_in g2) rfl ?_
      refine x_iconst (pc' := 18) (x := 0) dX12_waves_17 (by decide) rfl ?_
      refine x_istore_n (pc' := 19) (L' := [some (.ref 90), some (.int v1), some (.int (0 : Int32))]) dX12_waves_18 (Nat.le_of_ble_eq_true rfl) rfl rfl ?_
      exact r_X12_waves_19 (F_X12_waves_2 n) ih 1000000 _ _ _ _ _ _ h
def F_X12_waves (hi : Nat → Nat → Int32) (hl : Nat → Nat → Int64) (r : xRr) : Option (xSt) := F_X12_waves_2 1000000 (0 : Int32) hi hl r
set_option maxRecDepth 20000 in
set_option maxHeartbeats 2000000 in
theorem r_X12_waves (hi : Nat → Nat → Int32) (hl : Nat → Nat → Int64) (r : xRr) (o : xSt) (h : F_X12_waves hi hl r = some o) : xM yX12_waves cX12_waves 3 0 (6, 0, 0) z [.ref 90] (xhp hi hl r) (xoV o) := by
  refine x_meth2 (C := RX12) (ini := false) (L := [some (.ref 90), none, none]) rfl (by decide) (fun h9 => by cases h9) (by decide) (Nat.le_of_ble_eq_true rfl) rfl ?_
  refine x_iconst (pc' := 1) (x := 0) dX12_waves_0 (by decide) rfl ?_
  refine x_istore_n (pc' := 2) (L' := [some (.ref 90), some (.int (0 : Int32)), none]) dX12_waves_1 (Nat.le_of_ble_eq_true rfl) rfl rfl ?_
  exact r_X12_waves_2 1000000 _ _ _ _ _ _ h
def F_X12_wave (v1 : Int32) (hi : Nat → Nat → Int32) (hl : Nat → Nat → Int64) (r : xRr) : Option (Int32 × xSt) := xbP (F_X12_in (Int32.toInt64 v1) (0 : Int64) (Int32.toInt64 (((xu hi 90 0 (0 : Int32)) 90 22) - (1 : Int32)))) (fun w2 => if w2 = 0 then some (((-1) : Int32), (xu hi 90 0 (0 : Int32)), hl, r) else xbI (F_X12_isPlain (xu hi 90 0 (0 : Int32)) hl r) (fun w5 hi5 hl5 r5 => if w5 = 0 then some (((-2) : Int32), hi5, hl5, r5) else xbV (F_X12_waves hi5 hl5 r5) (fun hi8 hl8 r8 => if xok v1 16 = true then some ((hi8 119 (Int32.toNatClampNeg v1)), hi8, hl8, r8) else none)))
set_option maxRecDepth 20000 in
set_option maxHeartbeats 2000000 in
theorem r_X12_wave (v1 : Int32) (hi : Nat → Nat → Int32) (hl : Nat → Nat → Int64) (r : xRr) (o : Int32 × xSt) (h : F_X12_wave v1 hi hl r = some o) : xM yX12_wave cX12_wave 2 1 (7, 0, 0) z [.ref 90, .int v1] (xhp hi hl r) (xoI o) := by
  refine x_meth2 (C := RX12) (ini := false) (L := [some (.ref 90), some (.int v1)]) rfl (by decide) (fun h9 => by cases h9) (by decide) (Nat.le_of_ble_eq_true rfl) rfl ?_
  refine x_aload_n (pc' := 1) dX12_wave_0 rfl rfl ?_
  refine x_iconst (pc' := 2) (x := 0) dX12_wave_1 (by decide) rfl ?_
  refine x_puti (pc' := 5) dX12_wave_2 f_X12_109 (Or.inl rfl) (by decide) rfl rfl rfl ?_
  refine x_iload_n (pc' := 6) dX12_wave_5 rfl rfl ?_
  refine x_i2l (pc' := 7) dX12_wave_6 rfl ?_
  refine x_lconst (pc' := 8) (x := 0) dX12_wave_7 (by decide) rfl ?_
  refine x_aload_n (pc' := 9) dX12_wave_8 rfl rfl ?_
  refine x_geti (pc' := 12) dX12_wave_9 f_X12_172 (by decide) rfl rfl rfl ?_
  refine x_iconst (pc' := 13) (x := 1) dX12_wave_12 (by decide) rfl ?_
  refine x_isub (pc' := 14) dX12_wave_13 rfl ?_
  refine x_i2l (pc' := 15) dX12_wave_14 rfl ?_
  refine xg_bP h (fun w2 e1 h => ?_)
  refine x_callS (pc' := 18) (S := []) (As := [.long (Int32.toInt64 v1), .long (0 : Int64), .long (Int32.toInt64 (((xu hi 90 0 (0 : Int32)) 90 22) - (1 : Int32)))]) (b' := (0, 0, 0)) dX12_wave_15 l_X12_118 m_X12_in rfl rfl (Nat.le_of_ble_eq_true rfl) (Nat.le_of_ble_eq_true rfl) (Nat.le_of_ble_eq_true rfl) (Nat.le_of_ble_eq_true rfl) (r_X12_in _ _ _ _ _ e1) rfl ?_
  refine xg_ite h (fun g3 h => ?_) (fun g3 h => ?_)
  · refine x_if_ne (tgt := 23) (pc' := 21) dX12_wave_18 (by decide) rfl (fun hn => absurd g3 hn) (fun _ => ?_)
    refine x_iconst (pc' := 22) (x := (-1)) dX12_wave_21 (by decide) rfl ?_
    obtain rfl := Option.some.inj h
    exact x_iret dX12_wave_22 rfl rfl (Nat.le_of_ble_eq_true rfl) rfl
  · refine x_if_ne (tgt := 23) (pc' := 21) dX12_wave_18 (by decide) rfl (fun _ => ?_) (fun hn => absurd hn g3)
    refine x_aload_n (pc' := 24) dX12_wave_23 rfl rfl ?_
    refine xg_bI h (fun w5 hi5 hl5 r5 e4 h => ?_)
    refine x_callV (pc' := 27) (S := []) (As := []) (b' := (0, 0, 0)) dX12_wave_24 l_X12_347 m_X12_isPlain rfl rfl (show 90 < 122 by decide) rfl (Nat.le_of_ble_eq_true rfl) (Nat.le_of_ble_eq_true rfl) (Nat.le_of_ble_eq_true rfl) (Nat.le_of_ble_eq_true rfl) (r_X12_isPlain _ _ _ _ e4) rfl ?_
    refine xg_ite h (fun g6 h => ?_) (fun g6 h => ?_)
    · refine x_if_ne (tgt := 33) (pc' := 30) dX12_wave_27 (by decide) rfl (fun hn => absurd g6 hn) (fun _ => ?_)
      refine x_bipush (pc' := 32) (x := (-2)) dX12_wave_30 (by decide) rfl ?_
      obtain rfl := Option.some.inj h
      exact x_iret dX12_wave_32 rfl rfl (Nat.le_of_ble_eq_true rfl) rfl
    · refine x_if_ne (tgt := 33) (pc' := 30) dX12_wave_27 (by decide) rfl (fun _ => ?_) (fun hn => absurd hn g6)
      refine x_aload_n (pc' := 34) dX12_wave_33 rfl rfl ?_
      refine xg_bV h (fun hi8 hl8 r8 e7 h => ?_)
      refine x_callV (pc' := 37) (S := []) (As := []) (b' := (6, 0, 0)) dX12_wave_34 l_X12_350 m_X12_waves rfl rfl (show 90 < 122 by decide) rfl (Nat.le_of_ble_eq_true rfl) (Nat.le_of_ble_eq_true rfl) (Nat.le_of_ble_eq_true rfl) (Nat.le_of_ble_eq_true rfl) (r_X12_waves _ _ _ _ e7) rfl ?_
      refine x_aload_n (pc' := 38) dX12_wave_37 rfl rfl ?_
      refine x_getr (pc' := 41) (t := 119) dX12_wave_38 f_X12_100 (by decide) rfl rfl rfl rfl ?_
      refine x_iload_n (pc' := 42) dX12_wave_41 rfl rfl ?_
      refine xg_if h (fun g9 h => ?_)
      refine x_iald (pc' := 43) dX12_wave_42 (by decide) rfl (xok_in g9) rfl ?_
      obtain rfl := Option.some.inj h
      exact x_iret dX12_wave_43 rfl rfl (Nat.le_of_ble_eq_true rfl) rfl
def F_X12_reorders_141 (K55 : Int32 → Int32 → Int32 → (Nat → Nat → Int32) → (Nat → Nat → Int64) → xRr → Option (Int32 × xSt)) (K66 : Int32 → Int32 → Int32 → Int32 → (Nat → Nat → Int32) → (Nat → Nat → Int64) → xRr → Option (Int32 × xSt)) (v1 : Int32) (v2 : Int32) (v3 : Int32) (v4 : Int32) (hi : Nat → Nat → Int32) (hl : Nat → Nat → Int64) (r : xRr) : Option (Int32 × xSt) := K66 v1 v2 v3 (v4 + (1)) hi hl r
set_option maxRecDepth 20000 in
set_option maxHeartbeats 2000000 in
theorem r_X12_reorders_141 (K55 : Int32 → Int32 → Int32 → (Nat → Nat → Int32) → (Nat → Nat → Int64) → xRr → Option (Int32 × xSt)) (hK55 : ∀ (v1 : Int32) (v2 : Int32) (v3 : Int32) (d4 : Option Value) (d5 : Option Value) (hi : Nat → Nat → Int32) (hl : Nat → Nat → Int64) (r : xRr) (o : Int32 × xSt), K55 v1 v2 v3 hi hl r = some o → xR (RX12, cX12_reorders, 6, false, 1) (7, 0, 0) z 0 0 55 [some (.ref 90), some (.int v1), some (.int v2), some (.int v3), d4, d5] [] (xhp hi hl r) (xoI o)) (K66 : Int32 → Int32 → Int32 → Int32 → (Nat → Nat → Int32) → (Nat → Nat → Int64) → xRr → Option (Int32 × xSt)) (hK66 : ∀ (v1 : Int32) (v2 : Int32) (v3 : Int32) (v4 : Int32) (d5 : Option Value) (hi : Nat → Nat → Int32) (hl : Nat → Nat → Int64) (r : xRr) (o : Int32 × xSt), K66 v1 v2 v3 v4 hi hl r = some o → xR (RX12, cX12_reorders, 6, false, 1) (7, 0, 0) z 0 0 66 [some (.ref 90), some (.int v1), some (.int v2), some (.int v3), some (.int v4), d5] [] (xhp hi hl r) (xoI o)) (v1 : Int32) (v2 : Int32) (v3 : Int32) (v4 : Int32) (d5 : Option Value) (hi : Nat → Nat → Int32) (hl : Nat → Nat → Int64) (r : xRr) (o : Int32 × xSt) (h : F_X12_reorders_141 K55 K66 v1 v2 v3 v4 hi hl r = some o) : xR (RX12, cX12_reorders, 6, false, 1) (7, 0, 0) z 0 0 141 [some (.ref 90), some (.int v1), some (.int v2), some (.int v3), some (.int v4), d5] [] (xhp hi hl r) (xoI o) := by
  refine x_iinc (pc' := 144) (v := (v4 + (1))) (L' := [some (.ref 90), some (.int v1), some (.int v2), some (.int v3), some (.int (v4 + (1))), d5]) dX12_reorders_141 rfl rfl (Nat.le_of_ble_eq_true rfl) rfl rfl ?_
  refine x_goto (tgt := 66) dX12_reorders_144 (by decide) ?_
  exact hK66 _ _ _ _ _ _ _ _ _ h
def F_X12_reorders_103 (K55 : Int32 → Int32 → Int32 → (Nat → Nat → Int32) → (Nat → Nat → Int64) → xRr → Option (Int32 × xSt)) (K66 : Int32 → Int32 → Int32 → Int32 → (Nat → Nat → Int32) → (Nat → Nat → Int64) → xRr → Option (Int32 × xSt)) : Nat → Int32 → Int32 → Int32 → Int32 → Int32 → (Nat → Nat → Int32) → (Nat → Nat → Int64) → xRr → Option (Int32 × xSt)
  | 0, _, _, _, _, _, _, _, _ => none
  | n + 1, v1, v2, v3, v4, v5, hi, hl, r => if (5 : Int32) ≤ v5 then F_X12_reorders_141 K55 K66 (v1 + (1)) v2 v3 v4 hi hl r else if xok (((5 : Int32) * v4) + v5) 80 = true then if xok (((5 : Int32) * v1) + v5) 80 = true then (F_X12_reorders_103 K55 K66 n) v1 v2 v3 v4 (v5 + (1)) (xu hi 107 (Int32.toNatClampNeg (((5 : Int32) * v1) + v5)) (hi 120 (Int32.toNatClampNeg (((5 : Int32) * v4) + v5)))) hl r else none else none
set_option maxRecDepth 20000 in
set_option maxHeartbeats 2000000 in
theorem r_X12_reorders_103 (K55 : Int32 → Int32 → Int32 → (Nat → Nat → Int32) → (Nat → Nat → Int64) → xRr → Option (Int32 × xSt)) (hK55 : ∀ (v1 : Int32) (v2 : Int32) (v3 : Int32) (d4 : Option Value) (d5 : Option Value) (hi : Nat → Nat → Int32) (hl : Nat → Nat → Int64) (r : xRr) (o : Int32 × xSt), K55 v1 v2 v3 hi hl r = some o → xR (RX12, cX12_reorders, 6, false, 1) (7, 0, 0) z 0 0 55 [some (.ref 90), some (.int v1), some (.int v2), some (.int v3), d4, d5] [] (xhp hi hl r) (xoI o)) (K66 : Int32 → Int32 → Int32 → Int32 → (Nat → Nat → Int32) → (Nat → Nat → Int64) → xRr → Option (Int32 × xSt)) (hK66 : ∀ (v1 : Int32) (v2 : Int32) (v3 : Int32) (v4 : Int32) (d5 : Option Value) (hi : Nat → Nat → Int32) (hl : Nat → Nat → Int64) (r : xRr) (o : Int32 × xSt), K66 v1 v2 v3 v4 hi hl r = some o → xR (RX12, cX12_reorders, 6, false, 1) (7, 0, 0) z 0 0 66 [some (.ref 90), some (.int v1), some (.int v2), some (.int v3), some (.int v4), d5] [] (xhp hi hl r) (xoI o)) : ∀ (n : Nat) (v1 : Int32) (v2 : Int32) (v3 : Int32) (v4 : Int32) (v5 : Int32) (hi : Nat → Nat → Int32) (hl : Nat → Nat → Int64) (r : xRr) (o : Int32 × xSt), F_X12_reorders_103 K55 K66 n v1 v2 v3 v4 v5 hi hl r = some o → xR (RX12, cX12_reorders, 6, false, 1) (7, 0, 0) z 0 0 103 [some (.ref 90), some (.int v1), some (.int v2), some (.int v3), some (.int v4), some (.int v5)] [] (xhp hi hl r) (xoI o) := by
  intro n
  induction n with
  | zero =>
    intro v1 v2 v3 v4 v5 hi hl r o h
    have h : none = some o := h
    cases h
  | succ n ih =>
    intro v1 v2 v3 v4 v5 hi hl r o h
    refine x_iload (pc' := 105) dX12_reorders_103 rfl rfl ?_
    refine x_iconst (pc' := 106) (x := 5) dX12_reorders_105 (by decide) rfl ?_
    refine xg_ite h (fun g1 h => ?_) (fun g1 h => ?_)
    · refine x_icmp_ge (tgt := 138) (pc' := 109) dX12_reorders_106 (by decide) rfl (fun _ => ?_) (fun hn => absurd g1 hn)
      refine x_iinc (pc' := 141) (v := (v1 + (1))) (L' := [some (.ref 90), some (.int (v1 + (1))), some (.int v2), some (.int v3), some (.int v4), some (.int v5)]) dX12_reorders_138 rfl rfl (Nat.le_of_ble_eq_true rfl) rfl rfl ?_
      exact r_X12_reorders_141 K55 hK55 K66 hK66 _ _ _ _ _ _ _ _ _ h
    · refine x_icmp_ge (tgt := 138) (pc' := 109) dX12_reorders_106 (by decide) rfl (fun hn => absurd hn g1) (fun _ => ?_)
      refine x_aload_n (pc' := 110) dX12_reorders_109 rfl rfl ?_
      refine x_getr (pc' := 113) (t := 107) dX12_reorders_110 f_X12_63 (by decide) rfl rfl rfl rfl ?_
      refine x_iconst (pc' := 114) (x := 5) dX12_reorders_113 (by decide) rfl ?_
      refine x_iload_n (pc' := 115) dX12_reorders_114 rfl rfl ?_
      refine x_imul (pc' := 116) dX12_reorders_115 rfl ?_
      refine x_iload (pc' := 118) dX12_reorders_116 rfl rfl ?_
      refine x_iadd (pc' := 119) dX12_reorders_118 rfl ?_
      refine x_aload_n (pc' := 120) dX12_reorders_119 rfl rfl ?_
      refine x_getr (pc' := 123) (t := 120) dX12_reorders_120 f_X12_103 (by decide) rfl rfl rfl rfl ?_
      refine x_iconst (pc' := 124) (x := 5) dX12_reorders_123 (by decide) rfl ?_
      refine x_iload (pc' := 126) dX12_reorders_124 rfl rfl ?_
      refine x_imul (pc' := 127) dX12_reorders_126 rfl ?_
      refine x_iload (pc' := 129) dX12_reorders_127 rfl rfl ?_
      refine x_iadd (pc' := 130) dX12_reorders_129 rfl ?_
      refine xg_if h (fun g2 h => ?_)
      refine x_iald (pc' := 131) dX12_reorders_130 (by decide) rfl (xok_in g2) rfl ?_
      refine xg_if h (fun g3 h => ?_)
      refine x_iast (pc' := 132) dX12_reorders_131 (by decide) rfl (xok_in g3) rfl ?_
      refine x_iinc (pc' := 135) (v := (v5 + (1))) (L' := [some (.ref 90), some (.int v1), some (.int v2), some (.int v3), some (.int v4), some (.int (v5 + (1)))]) dX12_reorders_132 rfl rfl (Nat.le_of_ble_eq_true rfl) rfl rfl ?_
      refine x_goto (tgt := 103) dX12_reorders_135 (by decide) ?_
      exact ih _ _ _ _ _ _ _ _ _ h
def F_X12_reorders_98 (K55 : Int32 → Int32 → Int32 → (Nat → Nat → Int32) → (Nat → Nat → Int64) → xRr → Option (Int32 × xSt)) (K66 : Int32 → Int32 → Int32 → Int32 → (Nat → Nat → Int32) → (Nat → Nat → Int64) → xRr → Option (Int32 × xSt)) (v1 : Int32) (v3 : Int32) (v4 : Int32) (s0 : Int32) (s1 : Int32) (hi : Nat → Nat → Int32) (hl : Nat → Nat → Int64) (r : xRr) : Option (Int32 × xSt) := F_X12_reorders_103 K55 K66 1000000 v1 (s0 + s1) v3 v4 (0 : Int32) hi hl r
set_option maxRecDepth 20000 in
set_option maxHeartbeats 2000000 in
theorem r_X12_reorders_98 (K55 : Int32 → Int32 → Int32 → (Nat → Nat → Int32) → (Nat → Nat → Int64) → xRr → Option (Int32 × xSt)) (hK55 : ∀ (v1 : Int32) (v2 : Int32) (v3 : Int32) (d4 : Option Value) (d5 : Option Value) (hi : Nat → Nat → Int32) (hl : Nat → Nat → Int64) (r : xRr) (o : Int32 × xSt), K55 v1 v2 v3 hi hl r = some o → xR (RX12, cX12_reorders, 6, false, 1) (7, 0, 0) z 0 0 55 [some (.ref 90), some (.int v1), some (.int v2), some (.int v3), d4, d5] [] (xhp hi hl r) (xoI o)) (K66 : Int32 → Int32 → Int32 → Int32 → (Nat → Nat → Int32) → (Nat → Nat → Int64) → xRr → Option (Int32 × xSt)) (hK66 : ∀ (v1 : Int32) (v2 : Int32) (v3 : Int32) (v4 : Int32) (d5 : Option Value) (hi : Nat → Nat → Int32) (hl : Nat → Nat → Int64) (r : xRr) (o : Int32 × xSt), K66 v1 v2 v3 v4 hi hl r = some o → xR (RX12, cX12_reorders, 6, false, 1) (7, 0, 0) z 0 0 66 [some (.ref 90), some (.int v1), some (.int v2), some (.int v3), some (.int v4), d5] [] (xhp hi hl r) (xoI o)) (v1 : Int32) (v3 : Int32) (v4 : Int32) (s0 : Int32) (s1 : Int32) (d2 : Option Value) (d5 : Option Value) (hi : Nat → Nat → Int32) (hl : Nat → Nat → Int64) (r : xRr) (o : Int32 × xSt) (h : F_X12_reorders_98 K55 K66 v1 v3 v4 s0 s1 hi hl r = some o) : xR (RX12, cX12_reorders, 6, false, 1) (7, 0, 0) z 0 0 98 [some (.ref 90), some (.int v1), d2, some (.int v3), some (.int v4), d5] [.int s1, .int s0] (xhp hi hl r) (xoI o) := by
  refine x_iadd (pc' := 99) dX12_reorders_98 rfl ?_
  refine x_istore_n (pc' := 100) (L' := [some (.ref 90), some (.int v1), some (.int (s0 + s1)), some (.int v3), some (.int v4), d5]) dX12_reorders_99 (Nat.le_of_ble_eq_true rfl) rfl rfl ?_
  refine x_iconst (pc' := 101) (x := 0) dX12_reorders_100 (by decide) rfl ?_
  refine x_istore (pc' := 103) (L' := [some (.ref 90), some (.int v1), some (.int (s0 + s1)), some (.int v3), some (.int v4), some (.int (0 : Int32))]) dX12_reorders_101 (Nat.le_of_ble_eq_true rfl) rfl rfl ?_
  exact r_X12_reorders_103 K55 hK55 K66 hK66 1000000 _ _ _ _ _ _ _ _ _ h
def F_X12_reorders_66 (K55 : Int32 → Int32 → Int32 → (Nat → Nat → Int32) → (Nat → Nat → Int64) → xRr → Option (Int32 × xSt)) : Nat → Int32 → Int32 → Int32 → Int32 → (Nat → Nat → Int32) → (Nat → Nat → Int64) → xRr → Option (Int32 × xSt)
  | 0, _, _, _, _, _, _, _ => none
  | n + 1, v1, v2, v3, v4, hi, hl, r => if (hi 90 22) ≤ v4 then K55 v1 v2 (v3 + (1)) hi hl r else if xok v4 16 = true then if (hi 119 (Int32.toNatClampNeg v4)) = v3 then if v4 = v1 then F_X12_reorders_98 K55 (F_X12_reorders_66 K55 n) v1 v3 v4 v2 (0 : Int32) hi hl r else F_X12_reorders_98 K55 (F_X12_reorders_66 K55 n) v1 v3 v4 v2 (1 : Int32) hi hl r else F_X12_reorders_141 K55 (F_X12_reorders_66 K55 n) v1 v2 v3 v4 hi hl r else none
set_option maxRecDepth 20000 in
set_option maxHeartbeats 2000000 in
theorem r_X12_reorders_66 (K55 : Int32 → Int32 → Int32 → (Nat → Nat → Int32) → (Nat → Nat → Int64) → xRr → Option (Int32 × xSt)) (hK55 : ∀ (v1 : Int32) (v2 : Int32) (v3 : Int32) (d4 : Option Value) (d5 : Option Value) (hi : Nat → Nat → Int32) (hl : Nat → Nat → Int64) (r : xRr) (o : Int32 × xSt), K55 v1 v2 v3 hi hl r = some o → xR (RX12, cX12_reorders, 6, false, 1) (7, 0, 0) z 0 0 55 [some (.ref 90), some (.int v1), some (.int v2), some (.int v3), d4, d5] [] (xhp hi hl r) (xoI o)) : ∀ (n : Nat) (v1 : Int32) (v2 : Int32) (v3 : Int32) (v4 : Int32) (d5 : Option Value) (hi : Nat → Nat → Int32) (hl : Nat → Nat → Int64) (r : xRr) (o : Int32 × xSt), F_X12_reorders_66 K55 n v1 v2 v3 v4 hi hl r = some o → xR (RX12, cX12_reorders, 6, false, 1) (7, 0, 0) z 0 0 66 [some (.ref 90), some (.int v1), some (.int v2), some (.int v3), some (.int v4), d5] [] (xhp hi hl r) (xoI o) := by
  intro n
  induction n with
  | zero =>
    intro v1 v2 v3 v4 d5 hi hl r o h
    have h : none = some o := h
    cases h
  | succ n ih =>
    intro v1 v2 v3 v4 d5 hi hl r o h
    refine x_iload (pc' := 68) dX12_reorders_66 rfl rfl ?_
    refine x_aload_n (pc' := 69) dX12_reorders_68 rfl rfl ?_
    refine x_geti (pc' := 72) dX12_reorders_69 f_X12_172 (by decide) rfl rfl rfl ?_
    refine xg_ite h (fun g1 h => ?_) (fun g1 h => ?_)
    · refine x_icmp_ge (tgt := 147) (pc' := 75) dX12_reorders_72 (by decide) rfl (fun _ => ?_) (fun hn => absurd g1 hn)
      refine x_iinc (pc' := 150) (v := (v3 + (1))) (L' := [some (.ref 90), some (.int v1), some (.int v2), some (.int (v3 + (1))), some (.int v4), d5]) dX12_reorders_147 rfl rfl (Nat.le_of_ble_eq_true rfl) rfl rfl ?_
      refine x_goto (tgt := 55) dX12_reorders_150 (by decide) ?_
      exact hK55 _ _ _ _ _ _ _ _ _ h
    · refine x_icmp_ge (tgt := 147) (pc' := 75) dX12_reorders_72 (by decide) rfl (fun hn => absurd hn g1) (fun _ => ?_)
      refine x_aload_n (pc' := 76) dX12_reorders_75 rfl rfl ?_
      refine x_getr (pc' := 79) (t := 119) dX12_reorders_76 f_X12_100 (by decide) rfl rfl rfl rfl ?_
      refine x_iload (pc' := 81) dX12_reorders_79 rfl rfl ?_
      refine xg_if h (fun g2 h => ?_)
      refine x_iald (pc' := 82) dX12_reorders_81 (by decide) rfl (xok_in g2) rfl ?_
      refine x_iload_n (pc' := 83) dX12_reorders_82 rfl rfl ?_
      refine xg_ite h (fun g3 h => ?_) (fun g3 h => ?_)
      · refine x_icmp_ne (tgt := 141) (pc' := 86) dX12_reorders_83 (by decide) rfl (fun hn => absurd g3 hn) (fun _ => ?_)
        refine x_iload_n (pc' := 87) dX12_reorders_86 rfl rfl ?_
        refine x_iload (pc' := 89) dX12_reorders_87 rfl rfl ?_
        refine x_iload_n (pc' := 90) dX12_reorders_89 rfl rfl ?_
        refine xg_ite h (fun g4 h => ?_) (fun g4 h => ?_)
        · refine x_icmp_eq (tgt := 97) (pc' := 93) dX12_reorders_90 (by decide) rfl (fun _ => ?_) (fun hn => absurd g4 hn)
          refine x_iconst (pc' := 98) (x := 0) dX12_reorders_97 (by decide) rfl ?_
          exact r_X12_reorders_98 K55 hK55 (F_X12_reorders_66 K55 n) ih _ _ _ _ _ _ _ _ _ _ _ h
        · refine x_icmp_eq (tgt := 97) (pc' := 93) dX12_reorders_90 (by decide) rfl (fun hn => absurd hn g4) (fun _ => ?_)
          refine x_iconst (pc' := 94) (x := 1) dX12_reorders_93 (by decide) rfl ?_
          refine x_goto (tgt := 98) dX12_reorders_94 (by decide) ?_
          exact r_X12_reorders_98 K55 hK55 (F_X12_reorders_66 K55 n) ih _ _ _ _ _ _ _ _ _ _ _ h
      · refine x_icmp_ne (tgt := 141) (pc' := 86) dX12_reorders_83 (by decide) rfl (fun _ => ?_) (fun hn => absurd hn g3)
        exact r_X12_reorders_141 K55 hK55 (F_X12_reorders_66 K55 n) ih _ _ _ _ _ _ _ _ _ h
def F_X12_reorders_55 : Nat → Int32 → Int32 → Int32 → (Nat → Nat → Int32) → (Nat → Nat → Int64) → xRr → Option (Int32 × xSt)
  | 0, _, _, _, _, _, _ => none
  | n + 1, v1, v2, v3, hi, hl, r => if (hi 90 22) ≤ v3 then some (v2, hi, hl, r) else F_X12_reorders_66 (F_X12_reorders_55 n) 1000000 v1 v2 v3 (0 : Int32) hi hl r
set_option maxRecDepth 20000 in
set_option maxHeartbeats 2000000 in
theorem r_X12_reorders_55 : ∀ (n : Nat) (v1 : Int32) (v2 : Int32) (v3 : Int32) (d4 : Option Value) (d5 : Option Value) (hi : Nat → Nat → Int32) (hl : Nat → Nat → Int64) (r : xRr) (o : Int32 × xSt), F_X12_reorders_55 n v1 v2 v3 hi hl r = some o → xR (RX12, cX12_reorders, 6, false, 1) (7, 0, 0) z 0 0 55 [some (.ref 90), some (.int v1), some (.int v2), some (.int v3), d4, d5] [] (xhp hi hl r) (xoI o) := by
  intro n
  induction n with
  | zero =>
    intro v1 v2 v3 d4 d5 hi hl r o h
    have h : none = some o := h
    cases h
  | succ n ih =>
    intro v1 v2 v3 d4 d5 hi hl r o h
    refine x_iload_n (pc' := 56) dX12_reorders_55 rfl rfl ?_
    refine x_aload_n (pc' := 57) dX12_reorders_56 rfl rfl ?_
    refine x_geti (pc' := 60) dX12_reorders_57 f_X12_172 (by decide) rfl rfl rfl ?_
    refine xg_ite h (fun g1 h => ?_) (fun g1 h => ?_)
    · refine x_icmp_ge (tgt := 153) (pc' := 63) dX12_reorders_60 (by decide) rfl (fun _ => ?_) (fun hn => absurd g1 hn)
      refine x_iload_n (pc' := 154) dX12_reorders_153 rfl rfl ?_
      obtain rfl := Option.some.inj h
      exact x_iret dX12_reorders_154 rfl rfl (Nat.le_of_ble_eq_true rfl) rfl
    · refine x_icmp_ge (tgt := 153) (pc' := 63) dX12_reorders_60 (by decide) rfl (fun hn => absurd hn g1) (fun _ => ?_)
      refine x_iconst (pc' := 64) (x := 0) dX12_reorders_63 (by decide) rfl ?_
      refine x_istore (pc' := 66) (L' := [some (.ref 90), some (.int v1), some (.int v2), some (.int v3), some (.int (0 : Int32)), d5]) dX12_reorders_64 (Nat.le_of_ble_eq_true rfl) rfl rfl ?_
      exact r_X12_reorders_66 (F_X12_reorders_55 n) ih 1000000 _ _ _ _ _ _ _ _ _ h
def F_X12_reorders_21 : Nat → Int32 → (Nat → Nat → Int32) → (Nat → Nat → Int64) → xRr → Option (Int32 × xSt)
  | 0, _, _, _, _ => none
  | n + 1, v1, hi, hl, r => if ((5 : Int32) * (hi 90 22)) ≤ v1 then F_X12_reorders_55 1000000 (0 : Int32) (0 : Int32) (0 : Int32) hi hl r else if xok v1 80 = true then (F_X12_reorders_21 n) (v1 + (1)) (xu hi 120 (Int32.toNatClampNeg v1) (hi 107 (Int32.toNatClampNeg v1))) hl r else none
set_option maxRecDepth 20000 in
set_option maxHeartbeats 2000000 in
theorem r_X12_reorders_21 : ∀ (n : Nat) (v1 : Int32) (d2 : Option Value) (d3 : Option Value) (d4 : Option Value) (d5 : Option Value) (hi : Nat → Nat → Int32) (hl : Nat → Nat → Int64) (r : xRr) (o : Int32 × xSt), F_X12_reorders_21 n v1 hi hl r = some o → xR (RX12, cX12_reorders, 6, false, 1) (7, 0, 0) z 0 0 21 [some (.ref 90), some (.int v1), d2, d3, d4, d5] [] (xhp hi hl r) (xoI o) := by
  intro n
  induction n with
  | zero =>
    intro v1 d2 d3 d4 d5 hi hl r o h
    have h : none = some o := h
    cases h
  | succ n ih =>
    intro v1 d2 d3 d4 d5 hi hl r o h
    refine x_iload_n (pc' := 22) dX12_reorders_21 rfl rfl ?_
    refine x_iconst (pc' := 23) (x := 5) dX12_reorders_22 (by decide) rfl ?_
    refine x_aload_n (pc' := 24) dX12_reorders_23 rfl rfl ?_
    refine x_geti (pc' := 27) dX12_reorders_24 f_X12_172 (by decide) rfl rfl rfl ?_
    refine x_imul (pc' := 28) dX12_reorders_27 rfl ?_
    refine xg_ite h (fun g1 h => ?_) (fun g1 h => ?_)
    · refine x_icmp_ge (tgt := 49) (pc' := 31) dX12_reorders_28 (by decide) rfl (fun _ => ?_) (fun hn => absurd g1 hn)
      refine x_iconst (pc' := 50) (x := 0) dX12_reorders_49 (by decide) rfl ?_
      refine x_istore_n (pc' := 51) (L' := [some (.ref 90), some (.int (0 : Int32)), d2, d3, d4, d5]) dX12_reorders_50 (Nat.le_of_ble_eq_true rfl) rfl rfl ?_
      refine x_iconst (pc' := 52) (x := 0) dX12_reorders_51 (by decide) rfl ?_
      refine x_istore_n (pc' := 53) (L' := [some (.ref 90), some (.int (0 : Int32)), some (.int (0 : Int32)), d3, d4, d5]) dX12_reorders_52 (Nat.le_of_ble_eq_true rfl) rfl rfl ?_
      refine x_iconst (pc' := 54) (x := 0) dX12_reorders_53 (by decide) rfl ?_
      refine x_istore_n (pc' := 55) (L' := [some (.ref 90), some (.int (0 : Int32)), some (.int (0 : Int32)), some (.int (0 : Int32)), d4, d5]) dX12_reorders_54 (Nat.le_of_ble_eq_true rfl) rfl rfl ?_
      exact r_X12_reorders_55 1000000 _ _ _ _ _ _ _ _ _ h
    · refine x_icmp_ge (tgt := 49) (pc' := 31) dX12_reorders_28 (by decide) rfl (fun hn => absurd hn g1) (fun _ => ?_)
      refine x_aload_n (pc' := 32) dX12_reorders_31 rfl rfl ?_
      refine x_getr (pc' := 35) (t := 120) dX12_reorders_32 f_X12_103 (by decide) rfl rfl rfl rfl ?_
      refine x_iload_n (pc' := 36) dX12_reorders_35 rfl rfl ?_
      refine x_aload_n (pc' := 37) dX12_reorders_36 rfl rfl ?_
      refine x_getr (pc' := 40) (t := 107) dX12_reorders_37 f_X12_63 (by decide) rfl rfl rfl rfl ?_
      refine x_iload_n (pc' := 41) dX12_reorders_40 rfl rfl ?_
      refine xg_if h (fun g2 h => ?_)
      refine x_iald (pc' := 42) dX12_reorders_41 (by decide) rfl (xok_in g2) rfl ?_
      refine x_iast (pc' := 43) dX12_reorders_42 (by decide) rfl (xok_in g2) rfl ?_
      refine x_iinc (pc' := 46) (v := (v1 + (1))) (L' := [some (.ref 90), some (.int (v1 + (1))), d2, d3, d4, d5]) dX12_reorders_43 rfl rfl (Nat.le_of_ble_eq_true rfl) rfl rfl ?_
      refine x_goto (tgt := 21) dX12_reorders_46 (by decide) ?_
      exact ih _ _ _ _ _ _ _ _ _ h
def F_X12_reorders (hi : Nat → Nat → Int32) (hl : Nat → Nat → Int64) (r : xRr) : Option (Int32 × xSt) := xbI (F_X12_isPlain (xu hi 90 0 (0 : Int32)) hl r) (fun w2 hi2 hl2 r2 => if w2 = 0 then some (((-2) : Int32), hi2, hl2, r2) else xbV (F_X12_waves hi2 hl2 r2) (fun hi5 hl5 r5 => F_X12_reorders_21 1000000 (0 : Int32) hi5 hl5 r5))
set_option maxRecDepth 20000 in
set_option maxHeartbeats 2000000 in
theorem r_X12_reorders (hi : Nat → Nat → Int32) (hl : Nat → Nat → Int64) (r : xRr) (o : Int32 × xSt) (h : F_X12_reorders hi hl r = some o) : xM yX12_reorders cX12_reorders 6 1 (7, 0, 0) z [.ref 90] (xhp hi hl r) (xoI o) := by
  refine x_meth2 (C := RX12) (ini := false) (L := [some (.ref 90), none, none, none, none, none]) rfl (by decide) (fun h9 => by cases h9) (by decide) (Nat.le_of_ble_eq_true rfl) rfl ?_
  refine x_aload_n (pc' := 1) dX12_reorders_0 rfl rfl ?_
  refine x_iconst (pc' := 2) (x := 0) dX12_reorders_1 (by decide) rfl ?_
  refine x_puti (pc' := 5) dX12_reorders_2 f_X12_109 (Or.inl rfl) (by decide) rfl rfl rfl ?_
  refine x_aload_n (pc' := 6) dX12_reorders_5 rfl rfl ?_
  refine xg_bI h (fun w2 hi2 hl2 r2 e1 h => ?_)
  refine x_callV (pc' := 9) (S := []) (As := []) (b' := (0, 0, 0)) dX12_reorders_6 l_X12_347 m_X12_isPlain rfl rfl (show 90 < 122 by decide) rfl (Nat.le_of_ble_eq_true rfl) (Nat.le_of_ble_eq_true rfl) (Nat.le_of_ble_eq_true rfl) (Nat.le_of_ble_eq_true rfl) (r_X12_isPlain _ _ _ _ e1) rfl ?_
  refine xg_ite h (fun g3 h => ?_) (fun g3 h => ?_)
  · refine x_if_ne (tgt := 15) (pc' := 12) dX12_reorders_9 (by decide) rfl (fun hn => absurd g3 hn) (fun _ => ?_)
    refine x_bipush (pc' := 14) (x := (-2)) dX12_reorders_12 (by decide) rfl ?_
    obtain rfl := Option.some.inj h
    exact x_iret dX12_reorders_14 rfl rfl (Nat.le_of_ble_eq_true rfl) rfl
  · refine x_if_ne (tgt := 15) (pc' := 12) dX12_reorders_9 (by decide) rfl (fun _ => ?_) (fun hn => absurd hn g3)
    refine x_aload_n (pc' := 16) dX12_reorders_15 rfl rfl ?_
    refine xg_bV h (fun hi5 hl5 r5 e4 h => ?_)
    refine x_callV (pc' := 19) (S := []) (As := []) (b' := (6, 0, 0)) dX12_reorders_16 l_X12_350 m_X12_waves rfl rfl (show 90 < 122 by decide) rfl (Nat.le_of_ble_eq_true rfl) (Nat.le_of_ble_eq_true rfl) (Nat.le_of_ble_eq_true rfl) (Nat.le_of_ble_eq_true rfl) (r_X12_waves _ _ _ _ e4) rfl ?_
    refine x_iconst (pc' := 20) (x := 0) dX12_reorders_19 (by decide) rfl ?_
    refine x_istore_n (pc' := 21) (L' := [some (.ref 90), some (.int (0 : Int32)), none, none, none, none]) dX12_reorders_20 (Nat.le_of_ble_eq_true rfl) rfl rfl ?_
    exact r_X12_reorders_21 1000000 _ _ _ _ _ _ _ _ _ h
end
