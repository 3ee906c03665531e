section
variable {z : xZ}
def F_X12_isBank (v1 : Int32) (hi : Nat → Nat → Int32) (hl : Nat → Nat → Int64) (r : xRr) : Option (Int32 × xSt) := xbP (F_X12_in (Int32.toInt64 v1) (0 : Int64) (Int32.toInt64 ((hi 90 1) - (1 : Int32)))) (fun w2 => if w2 = 0 ∨ w2 = 1 then some (w2, hi, hl, r) else none)
set_option maxRecDepth 20000 in
set_option maxHeartbeats 2000000 in
theorem r_X12_isBank (v1 : Int32) (hi : Nat → Nat → Int32) (hl : Nat → Nat → Int64) (r : xRr) (o : Int32 × xSt) (h : F_X12_isBank v1 hi hl r = some o) : xM yX12_isBank cX12_isBank 2 3 (1, 0, 0) z [.ref 90, .int v1] (xhp hi hl r) (xoI o) := by
  refine x_meth2 (C := RX12) (ini := false) (L := [some (.ref 90), some (.int v1)]) rfl (by decide) (fun h9 => by cases h9) (by decide) (Nat.le_of_ble_eq_true rfl) rfl ?_
  refine x_iload_n (pc' := 1) dX12_isBank_0 rfl rfl ?_
  refine x_i2l (pc' := 2) dX12_isBank_1 rfl ?_
  refine x_lconst (pc' := 3) (x := 0) dX12_isBank_2 (by decide) rfl ?_
  refine x_aload_n (pc' := 4) dX12_isBank_3 rfl rfl ?_
  refine x_geti (pc' := 7) dX12_isBank_4 f_X12_140 (by decide) rfl rfl rfl ?_
  refine x_iconst (pc' := 8) (x := 1) dX12_isBank_7 (by decide) rfl ?_
  refine x_isub (pc' := 9) dX12_isBank_8 rfl ?_
  refine x_i2l (pc' := 10) dX12_isBank_9 rfl ?_
  refine xg_bP h (fun w2 e1 h => ?_)
  refine x_callS (pc' := 13) (S := []) (As := [.long (Int32.toInt64 v1), .long (0 : Int64), .long (Int32.toInt64 ((hi 90 1) - (1 : Int32)))]) (b' := (0, 0, 0)) dX12_isBank_10 l_X12_118 m_X12_in rfl rfl (Nat.le_of_ble_eq_true rfl) (Nat.le_of_ble_eq_true rfl) (Nat.le_of_ble_eq_true rfl) (Nat.le_of_ble_eq_true rfl) (r_X12_in _ _ _ _ _ e1) rfl ?_
  refine xg_or h (fun g3 h => ?_)
  obtain rfl := Option.some.inj h
  exact x_zret dX12_isBank_13 rfl g3 rfl (Nat.le_of_ble_eq_true rfl) rfl
def F_X12_isView (v1 : Int32) (hi : Nat → Nat → Int32) (hl : Nat → Nat → Int64) (r : xRr) : Option (Int32 × xSt) := xbP (F_X12_in (Int32.toInt64 v1) (0 : Int64) (Int32.toInt64 ((hi 90 6) - (1 : Int32)))) (fun w2 => if w2 = 0 ∨ w2 = 1 then some (w2, hi, hl, r) else none)
set_option maxRecDepth 20000 in
set_option maxHeartbeats 2000000 in
theorem r_X12_isView (v1 : Int32) (hi : Nat → Nat → Int32) (hl : Nat → Nat → Int64) (r : xRr) (o : Int32 × xSt) (h : F_X12_isView v1 hi hl r = some o) : xM yX12_isView cX12_isView 2 3 (1, 0, 0) z [.ref 90, .int v1] (xhp hi hl r) (xoI o) := by
  refine x_meth2 (C := RX12) (ini := false) (L := [some (.ref 90), some (.int v1)]) rfl (by decide) (fun h9 => by cases h9) (by decide) (Nat.le_of_ble_eq_true rfl) rfl ?_
  refine x_iload_n (pc' := 1) dX12_isView_0 rfl rfl ?_
  refine x_i2l (pc' := 2) dX12_isView_1 rfl ?_
  refine x_lconst (pc' := 3) (x := 0) dX12_isView_2 (by decide) rfl ?_
  refine x_aload_n (pc' := 4) dX12_isView_3 rfl rfl ?_
  refine x_geti (pc' := 7) dX12_isView_4 f_X12_143 (by decide) rfl rfl rfl ?_
  refine x_iconst (pc' := 8) (x := 1) dX12_isView_7 (by decide) rfl ?_
  refine x_isub (pc' := 9) dX12_isView_8 rfl ?_
  refine x_i2l (pc' := 10) dX12_isView_9 rfl ?_
  refine xg_bP h (fun w2 e1 h => ?_)
  refine x_callS (pc' := 13) (S := []) (As := [.long (Int32.toInt64 v1), .long (0 : Int64), .long (Int32.toInt64 ((hi 90 6) - (1 : Int32)))]) (b' := (0, 0, 0)) dX12_isView_10 l_X12_118 m_X12_in rfl rfl (Nat.le_of_ble_eq_true rfl) (Nat.le_of_ble_eq_true rfl) (Nat.le_of_ble_eq_true rfl) (Nat.le_of_ble_eq_true rfl) (r_X12_in _ _ _ _ _ e1) rfl ?_
  refine xg_or h (fun g3 h => ?_)
  obtain rfl := Option.some.inj h
  exact x_zret dX12_isView_13 rfl g3 rfl (Nat.le_of_ble_eq_true rfl) rfl
def F_X12_view_105 (v1 : Int32) (v2 : Int32) (v3 : Int32) (v4 : Int32) (v5 : Int32) (s0 : Int32) (hi : Nat → Nat → Int32) (hl : Nat → Nat → Int64) (r : xRr) : Option (Int32 × xSt) := if (hi 90 6) = (8 : Int32) then some (((-3) : Int32), hi, hl, r) else if s0 = (4 : Int32) then some (((-3) : Int32), hi, hl, r) else if xok (hi 90 6) 8 = true then if xok ((xu hi 95 (Int32.toNatClampNeg (hi 90 6)) v1) 90 6) 8 = true then if xok ((xu (xu hi 95 (Int32.toNatClampNeg (hi 90 6)) v1) 96 (Int32.toNatClampNeg ((xu hi 95 (Int32.toNatClampNeg (hi 90 6)) v1) 90 6)) v2) 90 6) 8 = true then if xok ((xu (xu (xu hi 95 (Int32.toNatClampNeg (hi 90 6)) v1) 96 (Int32.toNatClampNeg ((xu hi 95 (Int32.toNatClampNeg (hi 90 6)) v1) 90 6)) v2) 97 (Int32.toNatClampNeg ((xu (xu hi 95 (Int32.toNatClampNeg (hi 90 6)) v1) 96 (Int32.toNatClampNeg ((xu hi 95 (Int32.toNatClampNeg (hi 90 6)) v1) 90 6)) v2) 90 6)) v3) 90 6) 8 = true then if xok ((xu (xu (xu (xu hi 95 (Int32.toNatClampNeg (hi 90 6)) v1) 96 (Int32.toNatClampNeg ((xu hi 95 (Int32.toNatClampNeg (hi 90 6)) v1) 90 6)) v2) 97 (Int32.toNatClampNeg ((xu (xu hi 95 (Int32.toNatClampNeg (hi 90 6)) v1) 96 (Int32.toNatClampNeg ((xu hi 95 (Int32.toNatClampNeg (hi 90 6)) v1) 90 6)) v2) 90 6)) v3) 98 (Int32.toNatClampNeg ((xu (xu (xu hi 95 (Int32.toNatClampNeg (hi 90 6)) v1) 96 (Int32.toNatClampNeg ((xu hi 95 (Int32.toNatClampNeg (hi 90 6)) v1) 90 6)) v2) 97 (Int32.toNatClampNeg ((xu (xu hi 95 (Int32.toNatClampNeg (hi 90 6)) v1) 96 (Int32.toNatClampNeg ((xu hi 95 (Int32.toNatClampNeg (hi 90 6)) v1) 90 6)) v2) 90 6)) v3) 90 6)) v4) 90 6) 8 = true then if xok ((xu (xu (xu (xu (xu hi 95 (Int32.toNatClampNeg (hi 90 6)) v1) 96 (Int32.toNatClampNeg ((xu hi 95 (Int32.toNatClampNeg (hi 90 6)) v1) 90 6)) v2) 97 (Int32.toNatClampNeg ((xu (xu hi 95 (Int32.toNatClampNeg (hi 90 6)) v1) 96 (Int32.toNatClampNeg ((xu hi 95 (Int32.toNatClampNeg (hi 90 6)) v1) 90 6)) v2) 90 6)) v3) 98 (Int32.toNatClampNeg ((xu (xu (xu hi 95 (Int32.toNatClampNeg (hi 90 6)) v1) 96 (Int32.toNatClampNeg ((xu hi 95 (Int32.toNatClampNeg (hi 90 6)) v1) 90 6)) v2) 97 (Int32.toNatClampNeg ((xu (xu hi 95 (Int32.toNatClampNeg (hi 90 6)) v1) 96 (Int32.toNatClampNeg ((xu hi 95 (Int32.toNatClampNeg (hi 90 6)) v1) 90 6)) v2) 90 6)) v3) 90 6)) v4) 99 (Int32.toNatClampNeg ((xu (xu (xu (xu hi 95 (Int32.toNatClampNeg (hi 90 6)) v1) 96 (Int32.toNatClampNeg ((xu hi 95 (Int32.toNatClampNeg (hi 90 6)) v1) 90 6)) v2) 97 (Int32.toNatClampNeg ((xu (xu hi 95 (Int32.toNatClampNeg (hi 90 6)) v1) 96 (Int32.toNatClampNeg ((xu hi 95 (Int32.toNatClampNeg (hi 90 6)) v1) 90 6)) v2) 90 6)) v3) 98 (Int32.toNatClampNeg ((xu (xu (xu hi 95 (Int32.toNatClampNeg (hi 90 6)) v1) 96 (Int32.toNatClampNeg ((xu hi 95 (Int32.toNatClampNeg (hi 90 6)) v1) 90 6)) v2) 97 (Int32.toNatClampNeg ((xu (xu hi 95 (Int32.toNatClampNeg (hi 90 6)) v1) 96 (Int32.toNatClampNeg ((xu hi 95 (Int32.toNatClampNeg (hi 90 6)) v1) 90 6)) v2) 90 6)) v3) 90 6)) v4) 90 6)) v5) 90 6) 8 = true then some ((((xu (xu (xu (xu (xu (xu (xu hi 95 (Int32.toNatClampNeg (hi 90 6)) v1) 96 (Int32.toNatClampNeg ((xu hi 95 (Int32.toNatClampNeg (hi 90 6)) v1) 90 6)) v2) 97 (Int32.toNatClampNeg ((xu (xu hi 95 (Int32.toNatClampNeg (hi 90 6)) v1) 96 (Int32.toNatClampNeg ((xu hi 95 (Int32.toNatClampNeg (hi 90 6)) v1) 90 6)) v2) 90 6)) v3) 98 (Int32.toNatClampNeg ((xu (xu (xu hi 95 (Int32.toNatClampNeg (hi 90 6)) v1) 96 (Int32.toNatClampNeg ((xu hi 95 (Int32.toNatClampNeg (hi 90 6)) v1) 90 6)) v2) 97 (Int32.toNatClampNeg ((xu (xu hi 95 (Int32.toNatClampNeg (hi 90 6)) v1) 96 (Int32.toNatClampNeg ((xu hi 95 (Int32.toNatClampNeg (hi 90 6)) v1) 90 6)) v2) 90 6)) v3) 90 6)) v4) 99 (Int32.toNatClampNeg ((xu (xu (xu (xu hi 95 (Int32.toNatClampNeg (hi 90 6)) v1) 96 (Int32.toNatClampNeg ((xu hi 95 (Int32.toNatClampNeg (hi 90 6)) v1) 90 6)) v2) 97 (Int32.toNatClampNeg ((xu (xu hi 95 (Int32.toNatClampNeg (hi 90 6)) v1) 96 (Int32.toNatClampNeg ((xu hi 95 (Int32.toNatClampNeg (hi 90 6)) v1) 90 6)) v2) 90 6)) v3) 98 (Int32.toNatClampNeg ((xu (xu (xu hi 95 (Int32.toNatClampNeg (hi 90 6)) v1) 96 (Int32.toNatClampNeg ((xu hi 95 (Int32.toNatClampNeg (hi 90 6)) v1) 90 6)) v2) 97 (Int32.toNatClampNeg ((xu (xu hi 95 (Int32.toNatClampNeg (hi 90 6)) v1) 96 (Int32.toNatClampNeg ((xu hi 95 (Int32.toNatClampNeg (hi 90 6)) v1) 90 6)) v2) 90 6)) v3) 90 6)) v4) 90 6)) v5) 100 (Int32.toNatClampNeg ((xu (xu (xu (xu (xu hi 95 (Int32.toNatClampNeg (hi 90 6)) v1) 96 (Int32.toNatClampNeg ((xu hi 95 (Int32.toNatClampNeg (hi 90 6)) v1) 90 6)) v2) 97 (Int32.toNatClampNeg ((xu (xu hi 95 (Int32.toNatClampNeg (hi 90 6)) v1) 96 (Int32.toNatClampNeg ((xu hi 95 (Int32.toNatClampNeg (hi 90 6)) v1) 90 6)) v2) 90 6)) v3) 98 (Int32.toNatClampNeg ((xu (xu (xu hi 95 (Int32.toNatClampNeg (hi 90 6)) v1) 96 (Int32.toNatClampNeg ((xu hi 95 (Int32.toNatClampNeg (hi 90 6)) v1) 90 6)) v2) 97 (Int32.toNatClampNeg ((xu (xu hi 95 (Int32.toNatClampNeg (hi 90 6)) v1) 96 (Int32.toNatClampNeg ((xu hi 95 (Int32.toNatClampNeg (hi 90 6)) v1) 90 6)) v2) 90 6)) v3) 90 6)) v4) 99 (Int32.toNatClampNeg ((xu (xu (xu (xu hi 95 (Int32.toNatClampNeg (hi 90 6)) v1) 96 (Int32.toNatClampNeg ((xu hi 95 (Int32.toNatClampNeg (hi 90 6)) v1) 90 6)) v2) 97 (Int32.toNatClampNeg ((xu (xu hi 95 (Int32.toNatClampNeg (hi 90 6)) v1) 96 (Int32.toNatClampNeg ((xu hi 95 (Int32.toNatClampNeg (hi 90 6)) v1) 90 6)) v2) 90 6)) v3) 98 (Int32.toNatClampNeg ((xu (xu (xu hi 95 (Int32.toNatClampNeg (hi 90 6)) v1) 96 (Int32.toNatClampNeg ((xu hi 95 (Int32.toNatClampNeg (hi 90 6)) v1) 90 6)) v2) 97 (Int32.toNatClampNeg ((xu (xu hi 95 (Int32.toNatClampNeg (hi 90 6)) v1) 96 (Int32.toNatClampNeg ((xu hi 95 (Int32.toNatClampNeg (hi 90 6)) v1) 90 6)) v2) 90 6)) v3) 90 6)) v4) 90 6)) v5) 90 6)) (s0 + (1 : Int32))) 90 6 (((xu (xu (xu (xu (xu (xu hi 95 (Int32.toNatClampNeg (hi 90 6)) v1) 96 (Int32.toNatClampNeg ((xu hi 95 (Int32.toNatClampNeg (hi 90 6)) v1) 90 6)) v2) 97 (Int32.toNatClampNeg ((xu (xu hi 95 (Int32.toNatClampNeg (hi 90 6)) v1) 96 (Int32.toNatClampNeg ((xu hi 95 (Int32.toNatClampNeg (hi 90 6)) v1) 90 6)) v2) 90 6)) v3) 98 (Int32.toNatClampNeg ((xu (xu (xu hi 95 (Int32.toNatClampNeg (hi 90 6)) v1) 96 (Int32.toNatClampNeg ((xu hi 95 (Int32.toNatClampNeg (hi 90 6)) v1) 90 6)) v2) 97 (Int32.toNatClampNeg ((xu (xu hi 95 (Int32.toNatClampNeg (hi 90 6)) v1) 96 (Int32.toNatClampNeg ((xu hi 95 (Int32.toNatClampNeg (hi 90 6)) v1) 90 6)) v2) 90 6)) v3) 90 6)) v4) 99 (Int32.toNatClampNeg ((xu (xu (xu (xu hi 95 (Int32.toNatClampNeg (hi 90 6)) v1) 96 (Int32.toNatClampNeg ((xu hi 95 (Int32.toNatClampNeg (hi 90 6)) v1) 90 6)) v2) 97 (Int32.toNatClampNeg ((xu (xu hi 95 (Int32.toNatClampNeg (hi 90 6)) v1) 96 (Int32.toNatClampNeg ((xu hi 95 (Int32.toNatClampNeg (hi 90 6)) v1) 90 6)) v2) 90 6)) v3) 98 (Int32.toNatClampNeg ((xu (xu (xu hi 95 (Int32.toNatClampNeg (hi 90 6)) v1) 96 (Int32.toNatClampNeg ((xu hi 95 (Int32.toNatClampNeg (hi 90 6)) v1) 90 6)) v2) 97 (Int32.toNatClampNeg ((xu (xu hi 95 (Int32.toNatClampNeg (hi 90 6)) v1) 96 (Int32.toNatClampNeg ((xu hi 95 (Int32.toNatClampNeg (hi 90 6)) v1) 90 6)) v2) 90 6)) v3) 90 6)) v4) 90 6)) v5) 100 (Int32.toNatClampNeg ((xu (xu (xu (xu (xu hi 95 (Int32.toNatClampNeg (hi 90 6)) v1) 96 (Int32.toNatClampNeg ((xu hi 95 (Int32.toNatClampNeg (hi 90 6)) v1) 90 6)) v2) 97 (Int32.toNatClampNeg ((xu (xu hi 95 (Int32.toNatClampNeg (hi 90 6)) v1) 96 (Int32.toNatClampNeg ((xu hi 95 (Int32.toNatClampNeg (hi 90 6)) v1) 90 6)) v2) 90 6)) v3) 98 (Int32.toNatClampNeg ((xu (xu (xu hi 95 (Int32.toNatClampNeg (hi 90 6)) v1) 96 (Int32.toNatClampNeg ((xu hi 95 (Int32.toNatClampNeg (hi 90 6)) v1) 90 6)) v2) 97 (Int32.toNatClampNeg ((xu (xu hi 95 (Int32.toNatClampNeg (hi 90 6)) v1) 96 (Int32.toNatClampNeg ((xu hi 95 (Int32.toNatClampNeg (hi 90 6)) v1) 90 6)) v2) 90 6)) v3) 90 6)) v4) 99 (Int32.toNatClampNeg ((xu (xu (xu (xu hi 95 (Int32.toNatClampNeg (hi 90 6)) v1) 96 (Int32.toNatClampNeg ((xu hi 95 (Int32.toNatClampNeg (hi 90 6)) v1) 90 6)) v2) 97 (Int32.toNatClampNeg ((xu (xu hi 95 (Int32.toNatClampNeg (hi 90 6)) v1) 96 (Int32.toNatClampNeg ((xu hi 95 (Int32.toNatClampNeg (hi 90 6)) v1) 90 6)) v2) 90 6)) v3) 98 (Int32.toNatClampNeg ((xu (xu (xu hi 95 (Int32.toNatClampNeg (hi 90 6)) v1) 96 (Int32.toNatClampNeg ((xu hi 95 (Int32.toNatClampNeg (hi 90 6)) v1) 90 6)) v2) 97 (Int32.toNatClampNeg ((xu (xu hi 95 (Int32.toNatClampNeg (hi 90 6)) v1) 96 (Int32.toNatClampNeg ((xu hi 95 (Int32.toNatClampNeg (hi 90 6)) v1) 90 6)) v2) 90 6)) v3) 90 6)) v4) 90 6)) v5) 90 6)) (s0 + (1 : Int32))) 90 6) + (1 : Int32))) 90 6) - (1 : Int32)), (xu (xu (xu (xu (xu (xu (xu hi 95 (Int32.toNatClampNeg (hi 90 6)) v1) 96 (Int32.toNatClampNeg ((xu hi 95 (Int32.toNatClampNeg (hi 90 6)) v1) 90 6)) v2) 97 (Int32.toNatClampNeg ((xu (xu hi 95 (Int32.toNatClampNeg (hi 90 6)) v1) 96 (Int32.toNatClampNeg ((xu hi 95 (Int32.toNatClampNeg (hi 90 6)) v1) 90 6)) v2) 90 6)) v3) 98 (Int32.toNatClampNeg ((xu (xu (xu hi 95 (Int32.toNatClampNeg (hi 90 6)) v1) 96 (Int32.toNatClampNeg ((xu hi 95 (Int32.toNatClampNeg (hi 90 6)) v1) 90 6)) v2) 97 (Int32.toNatClampNeg ((xu (xu hi 95 (Int32.toNatClampNeg (hi 90 6)) v1) 96 (Int32.toNatClampNeg ((xu hi 95 (Int32.toNatClampNeg (hi 90 6)) v1) 90 6)) v2) 90 6)) v3) 90 6)) v4) 99 (Int32.toNatClampNeg ((xu (xu (xu (xu hi 95 (Int32.toNatClampNeg (hi 90 6)) v1) 96 (Int32.toNatClampNeg ((xu hi 95 (Int32.toNatClampNeg (hi 90 6)) v1) 90 6)) v2) 97 (Int32.toNatClampNeg ((xu (xu hi 95 (Int32.toNatClampNeg (hi 90 6)) v1) 96 (Int32.toNatClampNeg ((xu hi 95 (Int32.toNatClampNeg (hi 90 6)) v1) 90 6)) v2) 90 6)) v3) 98 (Int32.toNatClampNeg ((xu (xu (xu hi 95 (Int32.toNatClampNeg (hi 90 6)) v1) 96 (Int32.toNatClampNeg ((xu hi 95 (Int32.toNatClampNeg (hi 90 6)) v1) 90 6)) v2) 97 (Int32.toNatClampNeg ((xu (xu hi 95 (Int32.toNatClampNeg (hi 90 6)) v1) 96 (Int32.toNatClampNeg ((xu hi 95 (Int32.toNatClampNeg (hi 90 6)) v1) 90 6)) v2) 90 6)) v3) 90 6)) v4) 90 6)) v5) 100 (Int32.toNatClampNeg ((xu (xu (xu (xu (xu hi 95 (Int32.toNatClampNeg (hi 90 6)) v1) 96 (Int32.toNatClampNeg ((xu hi 95 (Int32.toNatClampNeg (hi 90 6)) v1) 90 6)) v2) 97 (Int32.toNatClampNeg ((xu (xu hi 95 (Int32.toNatClampNeg (hi 90 6)) v1) 96 (Int32.toNatClampNeg ((xu hi 95 (Int32.toNatClampNeg (hi 90 6)) v1) 90 6)) v2) 90 6)) v3) 98 (Int32.toNatClampNeg ((xu (xu (xu hi 95 (Int32.toNatClampNeg (hi 90 6)) v1) 96 (Int32.toNatClampNeg ((xu hi 95 (Int32.toNatClampNeg (hi 90 6)) v1) 90 6)) v2) 97 (Int32.toNatClampNeg ((xu (xu hi 95 (Int32.toNatClampNeg (hi 90 6)) v1) 96 (Int32.toNatClampNeg ((xu hi 95 (Int32.toNatClampNeg (hi 90 6)) v1) 90 6)) v2) 90 6)) v3) 90 6)) v4) 99 (Int32.toNatClampNeg ((xu (xu (xu (xu hi 95 (Int32.toNatClampNeg (hi 90 6)) v1) 96 (Int32.toNatClampNeg ((xu hi 95 (Int32.toNatClampNeg (hi 90 6)) v1) 90 6)) v2) 97 (Int32.toNatClampNeg ((xu (xu hi 95 (Int32.toNatClampNeg (hi 90 6)) v1) 96 (Int32.toNatClampNeg ((xu hi 95 (Int32.toNatClampNeg (hi 90 6)) v1) 90 6)) v2) 90 6)) v3) 98 (Int32.toNatClampNeg ((xu (xu (xu hi 95 (Int32.toNatClampNeg (hi 90 6)) v1) 96 (Int32.toNatClampNeg ((xu hi 95 (Int32.toNatClampNeg (hi 90 6)) v1) 90 6)) v2) 97 (Int32.toNatClampNeg ((xu (xu hi 95 (Int32.toNatClampNeg (hi 90 6)) v1) 96 (Int32.toNatClampNeg ((xu hi 95 (Int32.toNatClampNeg (hi 90 6)) v1) 90 6)) v2) 90 6)) v3) 90 6)) v4) 90 6)) v5) 90 6)) (s0 + (1 : Int32))) 90 6 (((xu (xu (xu (xu (xu (xu hi 95 (Int32.toNatClampNeg (hi 90 6)) v1) 96 (Int32.toNatClampNeg ((xu hi 95 (Int32.toNatClampNeg (hi 90 6)) v1) 90 6)) v2) 97 (Int32.toNatClampNeg ((xu (xu hi 95 (Int32.toNatClampNeg (hi 90 6)) v1) 96 (Int32.toNatClampNeg ((xu hi 95 (Int32.toNatClampNeg (hi 90 6)) v1) 90 6)) v2) 90 6)) v3) 98 (Int32.toNatClampNeg ((xu (xu (xu hi 95 (Int32.toNatClampNeg (hi 90 6)) v1) 96 (Int32.toNatClampNeg ((xu hi 95 (Int32.toNatClampNeg (hi 90 6)) v1) 90 6)) v2) 97 (Int32.toNatClampNeg ((xu (xu hi 95 (Int32.toNatClampNeg (hi 90 6)) v1) 96 (Int32.toNatClampNeg ((xu hi 95 (Int32.toNatClampNeg (hi 90 6)) v1) 90 6)) v2) 90 6)) v3) 90 6)) v4) 99 (Int32.toNatClampNeg ((xu (xu (xu (xu hi 95 (Int32.toNatClampNeg (hi 90 6)) v1) 96 (Int32.toNatClampNeg ((xu hi 95 (Int32.toNatClampNeg (hi 90 6)) v1) 90 6)) v2) 97 (Int32.toNatClampNeg ((xu (xu hi 95 (Int32.toNatClampNeg (hi 90 6)) v1) 96 (Int32.toNatClampNeg ((xu hi 95 (Int32.toNatClampNeg (hi 90 6)) v1) 90 6)) v2) 90 6)) v3) 98 (Int32.toNatClampNeg ((xu (xu (xu hi 95 (Int32.toNatClampNeg (hi 90 6)) v1) 96 (Int32.toNatClampNeg ((xu hi 95 (Int32.toNatClampNeg (hi 90 6)) v1) 90 6)) v2) 97 (Int32.toNatClampNeg ((xu (xu hi 95 (Int32.toNatClampNeg (hi 90 6)) v1) 96 (Int32.toNatClampNeg ((xu hi 95 (Int32.toNatClampNeg (hi 90 6)) v1) 90 6)) v2) 90 6)) v3) 90 6)) v4) 90 6)) v5) 100 (Int32.toNatClampNeg ((xu (xu (xu (xu (xu hi 95 (Int32.toNatClampNeg (hi 90 6)) v1) 96 (Int32.toNatClampNeg ((xu hi 95 (Int32.toNatClampNeg (hi 90 6)) v1) 90 6)) v2) 97 (Int32.toNatClampNeg ((xu (xu hi 95 (Int32.toNatClampNeg (hi 90 6)) v1) 96 (Int32.toNatClampNeg ((xu hi 95 (Int32.toNatClampNeg (hi 90 6)) v1) 90 6)) v2) 90 6)) v3) 98 (Int32.toNatClampNeg ((xu (xu (xu hi 95 (Int32.toNatClampNeg (hi 90 6)) v1) 96 (Int32.toNatClampNeg ((xu hi 95 (Int32.toNatClampNeg (hi 90 6)) v1) 90 6)) v2) 97 (Int32.toNatClampNeg ((xu (xu hi 95 (Int32.toNatClampNeg (hi 90 6)) v1) 96 (Int32.toNatClampNeg ((xu hi 95 (Int32.toNatClampNeg (hi 90 6)) v1) 90 6)) v2) 90 6)) v3) 90 6)) v4) 99 (Int32.toNatClampNeg ((xu (xu (xu (xu hi 95 (Int32.toNatClampNeg (hi 90 6)) v1) 96 (Int32.toNatClampNeg ((xu hi 95 (Int32.toNatClampNeg (hi 90 6)) v1) 90 6)) v2) 97 (Int32.toNatClampNeg ((xu (xu hi 95 (Int32.toNatClampNeg (hi 90 6)) v1) 96 (Int32.toNatClampNeg ((xu hi 95 (Int32.toNatClampNeg (hi 90 6)) v1) 90 6)) v2) 90 6)) v3) 98 (Int32.toNatClampNeg ((xu (xu (xu hi 95 (Int32.toNatClampNeg (hi 90 6)) v1) 96 (Int32.toNatClampNeg ((xu hi 95 (Int32.toNatClampNeg (hi 90 6)) v1) 90 6)) v2) 97 (Int32.toNatClampNeg ((xu (xu hi 95 (Int32.toNatClampNeg (hi 90 6)) v1) 96 (Int32.toNatClampNeg ((xu hi 95 (Int32.toNatClampNeg (hi 90 6)) v1) 90 6)) v2) 90 6)) v3) 90 6)) v4) 90 6)) v5) 90 6)) (s0 + (1 : Int32))) 90 6) + (1 : Int32))), hl, r) else none else none else none else none else none else none
set_option maxRecDepth 20000 in
set_option maxHeartbeats 2000000 in
theorem r_X12_view_105 (v1 : Int32) (v2 : Int32) (v3 : Int32) (v4 : Int32) (v5 : Int32) (s0 : Int32) (d6 : Option Value) (hi : Nat → Nat → Int32) (hl : Nat → Nat → Int64) (r : xRr) (o : Int32 × xSt) (h : F_X12_view_105 v1 v2 v3 v4 v5 s0 hi hl r = some o) : xR (RX12, cX12_view, 7, false, 1) (2, 0, 0) z 0 0 105 [some (.ref 90), some (.int v1), some (.int v2), some (.int v3), some (.int v4), some (.int v5), d6] [.int s0] (xhp hi hl r) (xoI o) := by
  refine x_istore (pc' := 107) (L' := [some (.ref 90), some (.int v1), some (.int v2), some (.int v3), some (.int v4), some (.int v5), some (.int s0)]) dX12_view_105 (Nat.le_of_ble_eq_true rfl) rfl rfl ?_
  refine x_aload_n (pc' := 108) dX12_view_107 rfl rfl ?_
  refine x_geti (pc' := 111) dX12_view_108 f_X12_143 (by decide) rfl rfl rfl ?_
  refine x_bipush (pc' := 113) (x := 8) dX12_view_111 (by decide) rfl ?_
  refine xg_ite h (fun g1 h => ?_) (fun g1 h => ?_)
  · refine x_icmp_eq (tgt := 122) (pc' := 116) dX12_view_113 (by decide) rfl (fun _ => ?_) (fun hn => absurd g1 hn)
    refine x_bipush (pc' := 124) (x := (-3)) dX12_view_122 (by decide) rfl ?_
    obtain rfl := Option.some.inj h
    exact x_iret dX12_view_124 rfl rfl (Nat.le_of_ble_eq_true rfl) rfl
  · refine x_icmp_eq (tgt := 122) (pc' := 116) dX12_view_113 (by decide) rfl (fun hn => absurd hn g1) (fun _ => ?_)
    refine x_iload (pc' := 118) dX12_view_116 rfl rfl ?_
    refine x_iconst (pc' := 119) (x := 4) dX12_view_118 (by decide) rfl ?_
    refine xg_ite h (fun g2 h => ?_) (fun g2 h => ?_)
    · refine x_icmp_ne (tgt := 125) (pc' := 122) dX12_view_119 (by decide) rfl (fun hn => absurd g2 hn) (fun _ => ?_)
      refine x_bipush (pc' := 124) (x := (-3)) dX12_view_122 (by decide) rfl ?_
      obtain rfl := Option.some.inj h
      exact x_iret dX12_view_124 rfl rfl (Nat.le_of_ble_eq_true rfl) rfl
    · refine x_icmp_ne (tgt := 125) (pc' := 122) dX12_view_119 (by decide) rfl (fun _ => ?_) (fun hn => absurd hn g2)
      refine x_aload_n (pc' := 126) dX12_view_125 rfl rfl ?_
      refine x_getr (pc' := 129) (t := 95) dX12_view_126 f_X12_23 (by decide) rfl rfl rfl rfl ?_
      refine x_aload_n (pc' := 130) dX12_view_129 rfl rfl ?_
      refine x_geti (pc' := 133) dX12_view_130 f_X12_143 (by decide) rfl rfl rfl ?_
      refine x_iload_n (pc' := 134) dX12_view_133 rfl rfl ?_
      refine xg_if h (fun g3 h => ?_)
      refine x_iast (pc' := 135) dX12_view_134 (by decide) rfl (xok_in g3) rfl ?_
      refine x_aload_n (pc' := 136) dX12_view_135 rfl rfl ?_
      refine x_getr (pc' := 139) (t := 96) dX12_view_136 f_X12_26 (by decide) rfl rfl rfl rfl ?_
      refine x_aload_n (pc' := 140) dX12_view_139 rfl rfl ?_
      refine x_geti (pc' := 143) dX12_view_140 f_X12_143 (by decide) rfl rfl rfl ?_
      refine x_iload_n (pc' := 144) dX12_view_143 rfl rfl ?_
      refine xg_if h (fun g4 h => ?_)
      refine x_iast (pc' := 145) dX12_view_144 (by decide) rfl (xok_in g4) rfl ?_
      refine x_aload_n (pc' := 146) dX12_view_145 rfl rfl ?_
      refine x_getr (pc' := 149) (t := 97) dX12_view_146 f_X12_29 (by decide) rfl rfl rfl rfl ?_
      refine x_aload_n (pc' := 150) dX12_view_149 rfl rfl ?_
      refine x_geti (pc' := 153) dX12_view_150 f_X12_143 (by decide) rfl rfl rfl ?_
      refine x_iload_n (pc' := 154) dX12_view_153 rfl rfl ?_
      refine xg_if h (fun g5 h => ?_)
      refine x_iast (pc' := 155) dX12_view_154 (by decide) rfl (xok_in g5) rfl ?_
      refine x_aload_n (pc' := 156) dX12_view_155 rfl rfl ?_
      refine x_getr (pc' := 159) (t := 98) dX12_view_156 f_X12_32 (by decide) rfl rfl rfl rfl ?_
      refine x_aload_n (pc' := 160) dX12_view_159 rfl rfl ?_
      refine x_geti (pc' := 163) dX12_view_160 f_X12_143 (by decide) rfl rfl rfl ?_
      refine x_iload (pc' := 165) dX12_view_163 rfl rfl ?_
      refine xg_if h (fun g6 h => ?_)
      refine x_iast (pc' := 166) dX12_view_165 (by decide) rfl (xok_in g6) rfl ?_
      refine x_aload_n (pc' := 167) dX12_view_166 rfl rfl ?_
      refine x_getr (pc' := 170) (t := 99) dX12_view_167 f_X12_35 (by decide) rfl rfl rfl rfl ?_
      refine x_aload_n (pc' := 171) dX12_view_170 rfl rfl ?_
      refine x_geti (pc' := 174) dX12_view_171 f_X12_143 (by decide) rfl rfl rfl ?_
      refine x_iload (pc' := 176) dX12_view_174 rfl rfl ?_
      refine xg_if h (fun g7 h => ?_)
      refine x_iast (pc' := 177) dX12_view_176 (by decide) rfl (xok_in g7) rfl ?_
      refine x_aload_n (pc' := 178) dX12_view_177 rfl rfl ?_
      refine x_getr (pc' := 181) (t := 100) dX12_view_178 f_X12_38 (by decide) rfl rfl rfl rfl ?_
      refine x_aload_n (pc' := 182) dX12_view_181 rfl rfl ?_
      refine x_geti (pc' := 185) dX12_view_182 f_X12_143 (by decide) rfl rfl rfl ?_
      refine x_iload (pc' := 187) dX12_view_185 rfl rfl ?_
      refine x_iconst (pc' := 188) (x := 1) dX12_view_187 (by decide) rfl ?_
      refine x_iadd (pc' := 189) dX12_view_188 rfl ?_
      refine xg_if h (fun g8 h => ?_)
      refine x_iast (pc' := 190) dX12_view_189 (by decide) rfl (xok_in g8) rfl ?_
      refine x_aload_n (pc' := 191) dX12_view_190 rfl rfl ?_
      refine x_dup (pc' := 192) dX12_view_191 rfl rfl ?_
      refine x_geti (pc' := 195) dX12_view_192 f_X12_143 (by decide) rfl rfl rfl ?_
      refine x_iconst (pc' := 196) (x := 1) dX12_view_195 (by decide) rfl ?_
      refine x_iadd (pc' := 197) dX12_view_196 rfl ?_
      refine x_puti (pc' := 200) dX12_view_197 f_X12_143 (Or.inl rfl) (by decide) rfl rfl rfl ?_
      refine x_aload_n (pc' := 201) dX12_view_200 rfl rfl ?_
      refine x_geti (pc' := 204) dX12_view_201 f_X12_143 (by decide) rfl rfl rfl ?_
      refine x_iconst (pc' := 205) (x := 1) dX12_view_204 (by decide) rfl ?_
      refine x_isub (pc' := 206) dX12_view_205 rfl ?_
      obtain rfl := Option.some.inj h
      exact x_iret dX12_view_206 rfl rfl (Nat.le_of_ble_eq_true rfl) rfl
def F_X12_view_30 (v1 : Int32) (v2 : Int32) (v3 : Int32) (v4 : Int32) (v5 : Int32) (hi : Nat → Nat → Int32) (hl : Nat → Nat → Int64) (r : xRr) : Option (Int32 × xSt) := xbP (F_X12_in (Int32.toInt64 v2) (-20 : Int64) (20 : Int64)) (fun w2 => if w2 = 0 then some (((-1) : Int32), hi, hl, r) else xbP (F_X12_in (Int32.toInt64 v3) (-3 : Int64) (3 : Int64)) (fun w5 => if w5 = 0 then some (((-1) : Int32), hi, hl, r) else xbP (F_X12_in (Int32.toInt64 v4) (1 : Int64) (12 : Int64)) (fun w8 => if w8 = 0 then some (((-1) : Int32), hi, hl, r) else xbP (F_X12_in (Int32.toInt64 v5) (0 : Int64) (8 : Int64)) (fun w11 => if w11 = 0 then some (((-1) : Int32), hi, hl, r) else if v1 ≤ (9 : Int32) then F_X12_view_105 v1 v2 v3 v4 v5 (0 : Int32) hi hl r else if xok (v1 - (10 : Int32)) 8 = true then F_X12_view_105 v1 v2 v3 v4 v5 (hi 100 (Int32.toNatClampNeg (v1 - (10 : Int32)))) hi hl r else none))))
set_option maxRecDepth 20000 in
set_option maxHeartbeats 2000000 in
theorem r_X12_view_30 (v1 : Int32) (v2 : Int32) (v3 : Int32) (v4 : Int32) (v5 : Int32) (d6 : Option Value) (hi : Nat → Nat → Int32) (hl : Nat → Nat → Int64) (r : xRr) (o : Int32 × xSt) (h : F_X12_view_30 v1 v2 v3 v4 v5 hi hl r = some o) : xR (RX12, cX12_view, 7, false, 1) (2, 0, 0) z 0 0 30 [some (.ref 90), some (.int v1), some (.int v2), some (.int v3), some (.int v4), some (.int v5), d6] [] (xhp hi hl r) (xoI o) := by
  refine x_iload_n (pc' := 31) dX12_view_30 rfl rfl ?_
  refine x_i2l (pc' := 32) dX12_view_31 rfl ?_
  refine x_ldc2 (pc' := 35) dX12_view_32 k_X12_155 rfl ?_
  refine x_ldc2 (pc' := 38) dX12_view_35 k_X12_157 rfl ?_
  refine xg_bP h (fun w2 e1 h => ?_)
  refine x_callS (pc' := 41) (S := []) (As := [.long (Int32.toInt64 v2), .long (-20 : Int64), .long (20 : Int64)]) (b' := (0, 0, 0)) dX12_view_38 l_X12_118 m_X12_in rfl rfl (Nat.le_of_ble_eq_true rfl) (Nat.le_of_ble_eq_true rfl) (Nat.le_of_ble_eq_true rfl) (Nat.le_of_ble_eq_true rfl) (r_X12_in _ _ _ _ _ e1) rfl ?_
  refine xg_ite h (fun g3 h => ?_) (fun g3 h => ?_)
  · refine x_if_eq (tgt := 84) (pc' := 44) dX12_view_41 (by decide) rfl (fun _ => ?_) (fun hn => absurd g3 hn)
    refine x_iconst (pc' := 85) (x := (-1)) dX12_view_84 (by decide) rfl ?_
    obtain rfl := Option.some.inj h
    exact x_iret dX12_view_85 rfl rfl (Nat.le_of_ble_eq_true rfl) rfl
  · refine x_if_eq (tgt := 84) (pc' := 44) dX12_view_41 (by decide) rfl (fun hn => absurd hn g3) (fun _ => ?_)
    refine x_iload_n (pc' := 45) dX12_view_44 rfl rfl ?_
    refine x_i2l (pc' := 46) dX12_view_45 rfl ?_
    refine x_ldc2 (pc' := 49) dX12_view_46 k_X12_159 rfl ?_
    refine x_ldc2 (pc' := 52) dX12_view_49 k_X12_161 rfl ?_
    refine xg_bP h (fun w5 e4 h => ?_)
    refine x_callS (pc' := 55) (S := []) (As := [.long (Int32.toInt64 v3), .long (-3 : Int64), .long (3 : Int64)]) (b' := (0, 0, 0)) dX12_view_52 l_X12_118 m_X12_in rfl rfl (Nat.le_of_ble_eq_true rfl) (Nat.le_of_ble_eq_true rfl) (Nat.le_of_ble_eq_true rfl) (Nat.le_of_ble_eq_true rfl) (r_X12_in _ _ _ _ _ e4) rfl ?_
    refine xg_ite h (fun g6 h => ?_) (fun g6 h => ?_)
    · refine x_if_eq (tgt := 84) (pc' := 58) dX12_view_55 (by decide) rfl (fun _ => ?_) (fun hn => absurd g6 hn)
      refine x_iconst (pc' := 85) (x := (-1)) dX12_view_84 (by decide) rfl ?_
      obtain rfl := Option.some.inj h
      exact x_iret dX12_view_85 rfl rfl (Nat.le_of_ble_eq_true rfl) rfl
    · refine x_if_eq (tgt := 84) (pc' := 58) dX12_view_55 (by decide) rfl (fun hn => absurd hn g6) (fun _ => ?_)
      refine x_iload (pc' := 60) dX12_view_58 rfl rfl ?_
      refine x_i2l (pc' := 61) dX12_view_60 rfl ?_
      refine x_lconst (pc' := 62) (x := 1) dX12_view_61 (by decide) rfl ?_
      refine x_ldc2 (pc' := 65) dX12_view_62 k_X12_146 rfl ?_
      refine xg_bP h (fun w8 e7 h => ?_)
      refine x_callS (pc' := 68) (S := []) (As := [.long (Int32.toInt64 v4), .long (1 : Int64), .long (12 : Int64)]) (b' := (0, 0, 0)) dX12_view_65 l_X12_118 m_X12_in rfl rfl (Nat.le_of_ble_eq_true rfl) (Nat.le_of_ble_eq_true rfl) (Nat.le_of_ble_eq_true rfl) (Nat.le_of_ble_eq_true rfl) (r_X12_in _ _ _ _ _ e7) rfl ?_
      refine xg_ite h (fun g9 h => ?_) (fun g9 h => ?_)
      · refine x_if_eq (tgt := 84) (pc' := 71) dX12_view_68 (by decide) rfl (fun _ => ?_) (fun hn => absurd g9 hn)
        refine x_iconst (pc' := 85) (x := (-1)) dX12_view_84 (by decide) rfl ?_
        obtain rfl := Option.some.inj h
        exact x_iret dX12_view_85 rfl rfl (Nat.le_of_ble_eq_true rfl) rfl
      · refine x_if_eq (tgt := 84) (pc' := 71) dX12_view_68 (by decide) rfl (fun hn => absurd hn g9) (fun _ => ?_)
        refine x_iload (pc' := 73) dX12_view_71 rfl rfl ?_
        refine x_i2l (pc' := 74) dX12_view_73 rfl ?_
        refine x_lconst (pc' := 75) (x := 0) dX12_view_74 (by decide) rfl ?_
        refine x_ldc2 (pc' := 78) dX12_view_75 k_X12_163 rfl ?_
        refine xg_bP h (fun w11 e10 h => ?_)
        refine x_callS (pc' := 81) (S := []) (As := [.long (Int32.toInt64 v5), .long (0 : Int64), .long (8 : Int64)]) (b' := (0, 0, 0)) dX12_view_78 l_X12_118 m_X12_in rfl rfl (Nat.le_of_ble_eq_true rfl) (Nat.le_of_ble_eq_true rfl) (Nat.le_of_ble_eq_true rfl) (Nat.le_of_ble_eq_true rfl) (r_X12_in _ _ _ _ _ e10) rfl ?_
        refine xg_ite h (fun g12 h => ?_) (fun g12 h => ?_)
        · refine x_if_ne (tgt := 86) (pc' := 84) dX12_view_81 (by decide) rfl (fun hn => absurd g12 hn) (fun _ => ?_)
          refine x_iconst (pc' := 85) (x := (-1)) dX12_view_84 (by decide) rfl ?_
          obtain rfl := Option.some.inj h
          exact x_iret dX12_view_85 rfl rfl (Nat.le_of_ble_eq_true rfl) rfl
        · refine x_if_ne (tgt := 86) (pc' := 84) dX12_view_81 (by decide) rfl (fun _ => ?_) (fun hn => absurd hn g12)
          refine x_iload_n (pc' := 87) dX12_view_86 rfl rfl ?_
          refine x_bipush (pc' := 89) (x := 9) dX12_view_87 (by decide) rfl ?_
          refine xg_ite h (fun g13 h => ?_) (fun g13 h => ?_)
          · refine x_icmp_le (tgt := 104) (pc' := 92) dX12_view_89 (by decide) rfl (fun _ => ?_) (fun hn => absurd g13 hn)
            refine x_iconst (pc' := 105) (x := 0) dX12_view_104 (by decide) rfl ?_
            exact r_X12_view_105 _ _ _ _ _ _ _ _ _ _ _ h
          · refine x_icmp_le (tgt := 104) (pc' := 92) dX12_view_89 (by decide) rfl (fun hn => absurd hn g13) (fun _ => ?_)
            refine x_aload_n (pc' := 93) dX12_view_92 rfl rfl ?_
            refine x_getr (pc' := 96) (t := 100) dX12_view_93 f_X12_38 (by decide) rfl rfl rfl rfl ?_
            refine x_iload_n (pc' := 97) dX12_view_96 rfl rfl ?_
            refine x_bipush (pc' := 99) (x := 10) dX12_view_97 (by decide) rfl ?_
            refine x_isub (pc' := 100) dX12_view_99 rfl ?_
            refine xg_if h (fun g14 h => ?_)
            refine x_iald (pc' := 101) dX12_view_100 (by decide) rfl (xok_in g14) rfl ?_
            refine x_goto (tgt := 105) dX12_view_101 (by decide) ?_
            exact r_X12_view_105 _ _ _ _ _ _ _ _ _ _ _ h
def F_X12_view (v1 : Int32) (v2 : Int32) (v3 : Int32) (v4 : Int32) (v5 : Int32) (hi : Nat → Nat → Int32) (hl : Nat → Nat → Int64) (r : xRr) : Option (Int32 × xSt) := xbI (F_X12_isBank v1 (xu hi 90 0 (0 : Int32)) hl r) (fun w2 hi2 hl2 r2 => if w2 = 0 then if v1 ≤ (9 : Int32) then some (((-1) : Int32), hi2, hl2, r2) else xbI (F_X12_isView (v1 - (10 : Int32)) hi2 hl2 r2) (fun w6 hi6 hl6 r6 => if w6 = 0 then some (((-1) : Int32), hi6, hl6, r6) else F_X12_view_30 v1 v2 v3 v4 v5 hi6 hl6 r6) else F_X12_view_30 v1 v2 v3 v4 v5 hi2 hl2 r2)
set_option maxRecDepth 20000 in
set_option maxHeartbeats 2000000 in
theorem r_X12_view (v1 : Int32) (v2 : Int32) (v3 : Int32) (v4 : Int32) (v5 : Int32) (hi : Nat → Nat → Int32) (hl : Nat → Nat → Int64) (r : xRr) (o : Int32 × xSt) (h : F_X12_view v1 v2 v3 v4 v5 hi hl r = some o) : xM yX12_view cX12_view 7 1 (2, 0, 0) z [.ref 90, .int v1, .int v2, .int v3, .int v4, .int v5] (xhp hi hl r) (xoI o) := by
  refine x_meth2 (C := RX12) (ini := false) (L := [some (.ref 90), some (.int v1), some (.int v2), some (.int v3), some (.int v4), some (.int v5), none]) rfl (by decide) (fun h9 => by cases h9) (by decide) (Nat.le_of_ble_eq_true rfl) rfl ?_
  refine x_aload_n (pc' := 1) dX12_view_0 rfl rfl ?_
  refine x_iconst (pc' := 2) (x := 0) dX12_view_1 (by decide) rfl ?_
  refine x_puti (pc' := 5) dX12_view_2 f_X12_109 (Or.inl rfl) (by decide) rfl rfl rfl ?_
  refine x_aload_n (pc' := 6) dX12_view_5 rfl rfl ?_
  refine x_iload_n (pc' := 7) dX12_view_6 rfl rfl ?_
  refine xg_bI h (fun w2 hi2 hl2 r2 e1 h => ?_)
  refine x_callV (pc' := 10) (S := []) (As := [.int v1]) (b' := (1, 0, 0)) dX12_view_7 l_X12_148 m_X12_isBank rfl rfl (show 90 < 122 by decide) rfl (Nat.le_of_ble_eq_true rfl) (Nat.le_of_ble_eq_true rfl) (Nat.le_of_ble_eq_true rfl) (Nat.le_of_ble_eq_true rfl) (r_X12_isBank _ _ _ _ _ e1) rfl ?_
  refine xg_ite h (fun g3 h => ?_) (fun g3 h => ?_)
  · refine x_if_ne (tgt := 30) (pc' := 13) dX12_view_10 (by decide) rfl (fun hn => absurd g3 hn) (fun _ => ?_)
    refine x_iload_n (pc' := 14) dX12_view_13 rfl rfl ?_
    refine x_bipush (pc' := 16) (x := 9) dX12_view_14 (by decide) rfl ?_
    refine xg_ite h (fun g4 h => ?_) (fun g4 h => ?_)
    · refine x_icmp_le (tgt := 84) (pc' := 19) dX12_view_16 (by decide) rfl (fun _ => ?_) (fun hn => absurd g4 hn)
      refine x_iconst (pc' := 85) (x := (-1)) dX12_view_84 (by decide) rfl ?_
      obtain rfl := Option.some.inj h
      exact x_iret dX12_view_85 rfl rfl (Nat.le_of_ble_eq_true rfl) rfl
    · refine x_icmp_le (tgt := 84) (pc' := 19) dX12_view_16 (by decide) rfl (fun hn => absurd hn g4) (fun _ => ?_)
      refine x_aload_n (pc' := 20) dX12_view_19 rfl rfl ?_
      refine x_iload_n (pc' := 21) dX12_view_20 rfl rfl ?_
      refine x_bipush (pc' := 23) (x := 10) dX12_view_21 (by decide) rfl ?_
      refine x_isub (pc' := 24) dX12_view_23 rfl ?_
      refine xg_bI h (fun w6 hi6 hl6 r6 e5 h => ?_)
      refine x_callV (pc' := 27) (S := []) (As := [.int (v1 - (10 : Int32))]) (b' := (1, 0, 0)) dX12_view_24 l_X12_152 m_X12_isView rfl rfl (show 90 < 122 by decide) rfl (Nat.le_of_ble_eq_true rfl) (Nat.le_of_ble_eq_true rfl) (Nat.le_of_ble_eq_true rfl) (Nat.le_of_ble_eq_true rfl) (r_X12_isView _ _ _ _ _ e5) rfl ?_
      refine xg_ite h (fun g7 h => ?_) (fun g7 h => ?_)
      · refine x_if_eq (tgt := 84) (pc' := 30) dX12_view_27 (by decide) rfl (fun _ => ?_) (fun hn => absurd g7 hn)
        refine x_iconst (pc' := 85) (x := (-1)) dX12_view_84 (by decide) rfl ?_
        obtain rfl := Option.some.inj h
        exact x_iret dX12_view_85 rfl rfl (Nat.le_of_ble_eq_true rfl) rfl
      · refine x_if_eq (tgt := 84) (pc' := 30) dX12_view_27 (by decide) rfl (fun hn => absurd hn g7) (fun _ => ?_)
        exact r_X12_view_30 _ _ _ _ _ _ _ _ _ _ h
  · refine x_if_ne (tgt := 30) (pc' := 13) dX12_view_10 (by decide) rfl (fun _ => ?_) (fun hn => absurd hn g3)
    exact r_X12_view_30 _ _ _ _ _ _ _ _ _ _ h
def F_X12_clear_64 : Nat → Int32 → Int32 → (Nat → Nat → Int32) → (Nat → Nat → Int64) → xRr → Option (Int32 × xSt)
  | 0, _, _, _, _, _ => none
  | n + 1, v1, v2, hi, hl, r => if (7 : Int32) ≤ v2 then some (v1, hi, hl, r) else if xok v2 7 = true then (F_X12_clear_64 n) v1 (v2 + (1)) (xu (xu hi 108 (Int32.toNatClampNeg v2) (0 : Int32)) 109 (Int32.toNatClampNeg v2) (0 : Int32)) hl r else none
set_option maxRecDepth 20000 in
set_option maxHeartbeats 2000000 in
theorem r_X12_clear_64 : ∀ (n : Nat) (v1 : Int32) (v2 : Int32) (hi : Nat → Nat → Int32) (hl : Nat → Nat → Int64) (r : xRr) (o : Int32 × xSt), F_X12_clear_64 n v1 v2 hi hl r = some o → xR (RX12, cX12_clear, 3, false, 1) (0, 0, 0) z 0 0 64 [some (.ref 90), some (.int v1), some (.int v2)] [] (xhp hi hl r) (xoI o) := by
  intro n
  induction n with
  | zero =>
    intro v1 v2 hi hl r o h
    have h : none = some o := h
    cases h
  | succ n ih =>
    intro v1 v2 hi hl r o h
    refine x_iload_n (pc' := 65) dX12_clear_64 rfl rfl ?_
    refine x_bipush (pc' := 67) (x := 7) dX12_clear_65 (by decide) rfl ?_
    refine xg_ite h (fun g1 h => ?_) (fun g1 h => ?_)
    · refine x_icmp_ge (tgt := 90) (pc' := 70) dX12_clear_67 (by decide) rfl (fun _ => ?_) (fun hn => absurd g1 hn)
      refine x_iload_n (pc' := 91) dX12_clear_90 rfl rfl ?_
      obtain rfl := Option.some.inj h
      exact x_iret dX12_clear_91 rfl rfl (Nat.le_of_ble_eq_true rfl) rfl
    · refine x_icmp_ge (tgt := 90) (pc' := 70) dX12_clear_67 (by decide) rfl (fun hn => absurd hn g1) (fun _ => ?_)
      refine x_aload_n (pc' := 71) dX12_clear_70 rfl rfl ?_
      refine x_getr (pc' := 74) (t := 108) dX12_clear_71 f_X12_66 (by decide) rfl rfl rfl rfl ?_
      refine x_iload_n (pc' := 75) dX12_clear_74 rfl rfl ?_
      refine x_iconst (pc' := 76) (x := 0) dX12_clear_75 (by decide) rfl ?_
      refine xg_if h (fun g2 h => ?_)
      refine x_iast (pc' := 77) dX12_clear_76 (by decide) rfl (xok_in g2) rfl ?_
      refine x_aload_n (pc' := 78) dX12_clear_77 rfl rfl ?_
      refine x_getr (pc' := 81) (t := 109) dX12_clear_78 f_X12_69 (by decide) rfl rfl rfl rfl ?_
      refine x_iload_n (pc' := 82) dX12_clear_81 rfl rfl ?_
      refine x_iconst (pc' := 83) (x := 0) dX12_clear_82 (by decide) rfl ?_
      refine x_iast (pc' := 84) dX12_clear_83 (by decide) rfl (xok_in g2) rfl ?_
      refine x_iinc (pc' := 87) (v := (v2 + (1))) (L' := [some (.ref 90), some (.int v1), some (.int (v2 + (1)))]) dX12_clear_84 rfl rfl (Nat.le_of_ble_eq_true rfl) rfl rfl ?_
      refine x_goto (tgt := 64) dX12_clear_87 (by decide) ?_
      exact ih _ _ _ _ _ _ h
def F_X12_clear (hi : Nat → Nat → Int32) (hl : Nat → Nat → Int64) (r : xRr) : Option (Int32 × xSt) := if xok (0 : Int32) 2 = true then if xok (1 : Int32) 2 = true then F_X12_clear_64 1000000 ((xu hi 90 0 (0 : Int32)) 90 1) (0 : Int32) (xu (xu (xu (xu (xu (xu (xu (xu (xu hi 90 0 (0 : Int32)) 90 1 (0 : Int32)) 90 6 (0 : Int32)) 90 13 ((-20) : Int32)) 90 15 (0 : Int32)) 90 22 (0 : Int32)) 90 26 (0 : Int32)) 106 (Int32.toNatClampNeg (0 : Int32)) ((-20) : Int32)) 106 (Int32.toNatClampNeg (1 : Int32)) ((-20) : Int32)) (xu hl 90 14 (0 : Int64)) r else none else none
set_option maxRecDepth 20000 in
set_option maxHeartbeats 2000000 in
theorem r_X12_clear (hi : Nat → Nat → Int32) (hl : Nat → Nat → Int64) (r : xRr) (o : Int32 × xSt) (h : F_X12_clear hi hl r = some o) : xM yX12_clear cX12_clear 3 1 (0, 0, 0) z [.ref 90] (xhp hi hl r) (xoI o) := by
  refine x_meth2 (C := RX12) (ini := false) (L := [some (.ref 90), none, none]) rfl (by decide) (fun h9 => by cases h9) (by decide) (Nat.le_of_ble_eq_true rfl) rfl ?_
  refine x_aload_n (pc' := 1) dX12_clear_0 rfl rfl ?_
  refine x_iconst (pc' := 2) (x := 0) dX12_clear_1 (by decide) rfl ?_
  refine x_puti (pc' := 5) dX12_clear_2 f_X12_109 (Or.inl rfl) (by decide) rfl rfl rfl ?_
  refine x_aload_n (pc' := 6) dX12_clear_5 rfl rfl ?_
  refine x_geti (pc' := 9) dX12_clear_6 f_X12_140 (by decide) rfl rfl rfl ?_
  refine x_istore_n (pc' := 10) (L' := [some (.ref 90), some (.int ((xu hi 90 0 (0 : Int32)) 90 1)), none]) dX12_clear_9 (Nat.le_of_ble_eq_true rfl) rfl rfl ?_
  refine x_aload_n (pc' := 11) dX12_clear_10 rfl rfl ?_
  refine x_iconst (pc' := 12) (x := 0) dX12_clear_11 (by decide) rfl ?_
  refine x_puti (pc' := 15) dX12_clear_12 f_X12_140 (Or.inl rfl) (by decide) rfl rfl rfl ?_
  refine x_aload_n (pc' := 16) dX12_clear_15 rfl rfl ?_
  refine x_iconst (pc' := 17) (x := 0) dX12_clear_16 (by decide) rfl ?_
  refine x_puti (pc' := 20) dX12_clear_17 f_X12_143 (Or.inl rfl) (by decide) rfl rfl rfl ?_
  refine x_aload_n (pc' := 21) dX12_clear_20 rfl rfl ?_
  refine x_bipush (pc' := 23) (x := (-20)) dX12_clear_21 (by decide) rfl ?_
  refine x_puti (pc' := 26) dX12_clear_23 f_X12_41 (Or.inl rfl) (by decide) rfl rfl rfl ?_
  refine x_aload_n (pc' := 27) dX12_clear_26 rfl rfl ?_
  refine x_lconst (pc' := 28) (x := 0) dX12_clear_27 (by decide) rfl ?_
  refine x_putl (pc' := 31) dX12_clear_28 f_X12_165 (Or.inl rfl) (by decide) rfl rfl rfl ?_
  refine x_aload_n (pc' := 32) dX12_clear_31 rfl rfl ?_
  refine x_iconst (pc' := 33) (x := 0) dX12_clear_32 (by decide) rfl ?_
  refine x_puti (pc' := 36) dX12_clear_33 f_X12_169 (Or.inl rfl) (by decide) rfl rfl rfl ?_
  refine x_aload_n (pc' := 37) dX12_clear_36 rfl rfl ?_
  refine x_iconst (pc' := 38) (x := 0) dX12_clear_37 (by decide) rfl ?_
  refine x_puti (pc' := 41) dX12_clear_38 f_X12_172 (Or.inl rfl) (by decide) rfl rfl rfl ?_
  refine x_aload_n (pc' := 42) dX12_clear_41 rfl rfl ?_
  refine x_iconst (pc' := 43) (x := 0) dX12_clear_42 (by decide) rfl ?_
  refine x_puti (pc' := 46) dX12_clear_43 f_X12_175 (Or.inl rfl) (by decide) rfl rfl rfl ?_
  refine x_aload_n (pc' := 47) dX12_clear_46 rfl rfl ?_
  refine x_getr (pc' := 50) (t := 106) dX12_clear_47 f_X12_60 (by decide) rfl rfl rfl rfl ?_
  refine x_iconst (pc' := 51) (x := 0) dX12_clear_50 (by decide) rfl ?_
  refine x_bipush (pc' := 53) (x := (-20)) dX12_clear_51 (by decide) rfl ?_
  refine xg_if h (fun g1 h => ?_)
  refine x_iast (pc' := 54) dX12_clear_53 (by decide) rfl (xok_in g1) rfl ?_
  refine x_aload_n (pc' := 55) dX12_clear_54 rfl rfl ?_
  refine x_getr (pc' := 58) (t := 106) dX12_clear_55 f_X12_60 (by decide) rfl rfl rfl rfl ?_
  refine x_iconst (pc' := 59) (x := 1) dX12_clear_58 (by decide) rfl ?_
  refine x_bipush (pc' := 61) (x := (-20)) dX12_clear_59 (by decide) rfl ?_
  refine xg_if h (fun g2 h => ?_)
  refine x_iast (pc' := 62) dX12_clear_61 (by decide) rfl (xok_in g2) rfl ?_
  refine x_iconst (pc' := 63) (x := 0) dX12_clear_62 (by decide) rfl ?_
  refine x_istore_n (pc' := 64) (L' := [some (.ref 90), some (.int ((xu hi 90 0 (0 : Int32)) 90 1)), some (.int (0 : Int32))]) dX12_clear_63 (Nat.le_of_ble_eq_true rfl) rfl rfl ?_
  exact r_X12_clear_64 1000000 _ _ _ _ _ _ h
def F_X12_placeIn_5 : Nat → Int32 → Int32 → (Nat → Nat → Int32) → (Nat → Nat → Int64) → xRr → Option (Int32 × xSt)
  | 0, _, _, _, _, _ => none
  | n + 1, v3, v4, hi, hl, r => if xok v3 8 = true then xbP (F_X12_in (Int32.toInt64 v4) (0 : Int64) (Int32.toInt64 ((hi 98 (Int32.toNatClampNeg v3)) - (1 : Int32)))) (fun w3 => if w3 = 0 then some (((-1000) : Int32), hi, hl, r) else if (10 : Int32) ≤ (hi 95 (Int32.toNatClampNeg v3)) then (F_X12_placeIn_5 n) ((hi 95 (Int32.toNatClampNeg v3)) - (10 : Int32)) ((hi 96 (Int32.toNatClampNeg v3)) + ((hi 97 (Int32.toNatClampNeg v3)) * v4)) hi hl r else some (((hi 96 (Int32.toNatClampNeg v3)) + ((hi 97 (Int32.toNatClampNeg v3)) * v4)), hi, hl, r)) else none
set_option maxRecDepth 20000 in
set_option maxHeartbeats 2000000 in
theorem r_X12_placeIn_5 : ∀ (n : Nat) (v3 : Int32) (v4 : Int32) (d1 : Option Value) (d2 : Option Value) (hi : Nat → Nat → Int32) (hl : Nat → Nat → Int64) (r : xRr) (o : Int32 × xSt), F_X12_placeIn_5 n v3 v4 hi hl r = some o → xR (RX12, cX12_placeIn, 5, false, 1) (1, 0, 0) z 0 0 5 [some (.ref 90), d1, d2, some (.int v3), some (.int v4)] [] (xhp hi hl r) (xoI o) := by
  intro n
  induction n with
  | zero =>
    intro v3 v4 d1 d2 hi hl r o h
    have h : none = some o := h
    cases h
  | succ n ih =>
    intro v3 v4 d1 d2 hi hl r o h
    refine x_iload (pc' := 7) dX12_placeIn_5 rfl rfl ?_
    refine x_i2l (pc' := 8) dX12_placeIn_7 rfl ?_
    refine x_lconst (pc' := 9) (x := 0) dX12_placeIn_8 (by decide) rfl ?_
    refine x_aload_n (pc' := 10) dX12_placeIn_9 rfl rfl ?_
    refine x_getr (pc' := 13) (t := 98) dX12_placeIn_10 f_X12_32 (by decide) rfl rfl rfl rfl ?_
    refine x_iload_n (pc' := 14) dX12_placeIn_13 rfl rfl ?_
    refine xg_if h (fun g1 h => ?_)
    refine x_iald (pc' := 15) dX12_placeIn_14 (by decide) rfl (xok_in g1) rfl ?_
    refine x_iconst (pc' := 16) (x := 1) dX12_placeIn_15 (by decide) rfl ?_
    refine x_isub (pc' := 17) dX12_placeIn_16 rfl ?_
    refine x_i2l (pc' := 18) dX12_placeIn_17 rfl ?_
    refine xg_bP h (fun w3 e2 h => ?_)
    refine x_callS (pc' := 21) (S := []) (As := [.long (Int32.toInt64 v4), .long (0 : Int64), .long (Int32.toInt64 ((hi 98 (Int32.toNatClampNeg v3)) - (1 : Int32)))]) (b' := (0, 0, 0)) dX12_placeIn_18 l_X12_118 m_X12_in rfl rfl (Nat.le_of_ble_eq_true rfl) (Nat.le_of_ble_eq_true rfl) (Nat.le_of_ble_eq_true rfl) (Nat.le_of_ble_eq_true rfl) (r_X12_in _ _ _ _ _ e2) rfl ?_
    refine xg_ite h (fun g4 h => ?_) (fun g4 h => ?_)
    · refine x_if_eq (tgt := 69) (pc' := 24) dX12_placeIn_21 (by decide) rfl (fun _ => ?_) (fun hn => absurd g4 hn)
      refine x_sipush (pc' := 72) (x := (-1000)) dX12_placeIn_69 (by decide) rfl ?_
      obtain rfl := Option.some.inj h
      exact x_iret dX12_placeIn_72 rfl rfl (Nat.le_of_ble_eq_true rfl) rfl
    · refine x_if_eq (tgt := 69) (pc' := 24) dX12_placeIn_21 (by decide) rfl (fun hn => absurd hn g4) (fun _ => ?_)
      refine x_aload_n (pc' := 25) dX12_placeIn_24 rfl rfl ?_
      refine x_getr (pc' := 28) (t := 96) dX12_placeIn_25 f_X12_26 (by decide) rfl rfl rfl rfl ?_
      refine x_iload_n (pc' := 29) dX12_placeIn_28 rfl rfl ?_
      refine x_iald (pc' := 30) dX12_placeIn_29 (by decide) rfl (xok_in g1) rfl ?_
      refine x_aload_n (pc' := 31) dX12_placeIn_30 rfl rfl ?_
      refine x_getr (pc' := 34) (t := 97) dX12_placeIn_31 f_X12_29 (by decide) rfl rfl rfl rfl ?_
      refine x_iload_n (pc' := 35) dX12_placeIn_34 rfl rfl ?_
      refine x_iald (pc' := 36) dX12_placeIn_35 (by decide) rfl (xok_in g1) rfl ?_
      refine x_iload (pc' := 38) dX12_placeIn_36 rfl rfl ?_
      refine x_imul (pc' := 39) dX12_placeIn_38 rfl ?_
      refine x_iadd (pc' := 40) dX12_placeIn_39 rfl ?_
      refine x_istore (pc' := 42) (L' := [some (.ref 90), d1, d2, some (.int v3), some (.int ((hi 96 (Int32.toNatClampNeg v3)) + ((hi 97 (Int32.toNatClampNeg v3)) * v4)))]) dX12_placeIn_40 (Nat.le_of_ble_eq_true rfl) rfl rfl ?_
      refine x_aload_n (pc' := 43) dX12_placeIn_42 rfl rfl ?_
      refine x_getr (pc' := 46) (t := 95) dX12_placeIn_43 f_X12_23 (by decide) rfl rfl rfl rfl ?_
      refine x_iload_n (pc' := 47) dX12_placeIn_46 rfl rfl ?_
      refine x_iald (pc' := 48) dX12_placeIn_47 (by decide) rfl (xok_in g1) rfl ?_
      refine x_bipush (pc' := 50) (x := 10) dX12_placeIn_48 (by decide) rfl ?_
      refine xg_ite h (fun g5 h => ?_) (fun g5 h => ?_)
      · refine x_icmp_ge (tgt := 56) (pc' := 53) dX12_placeIn_50 (by decide) rfl (fun _ => ?_) (fun hn => absurd g5 hn)
        refine x_aload_n (pc' := 57) dX12_placeIn_56 rfl rfl ?_
        refine x_getr (pc' := 60) (t := 95) dX12_placeIn_57 f_X12_23 (by decide) rfl rfl rfl rfl ?_
        refine x_iload_n (pc' := 61) dX12_placeIn_60 rfl rfl ?_
        refine x_iald (pc' := 62) dX12_placeIn_61 (by decide) rfl (xok_in g1) rfl ?_
        refine x_bipush (pc' := 64) (x := 10) dX12_placeIn_62 (by decide) rfl ?_
        refine x_isub (pc' := 65) dX12_placeIn_64 rfl ?_
        refine x_istore_n (pc' := 66) (L' := [some (.ref 90), d1, (xcl d2), some (.int ((hi 95 (Int32.toNatClampNeg v3)) - (10 : Int32))), some (.int ((hi 96 (Int32.toNatClampNeg v3)) + ((hi 97 (Int32.toNatClampNeg v3)) * v4)))]) dX12_placeIn_65 (Nat.le_of_ble_eq_true rfl) rfl rfl ?_
        refine x_goto (tgt := 5) dX12_placeIn_66 (by decide) ?_
        exact ih _ _ _ _ _ _ _ _ h
      · refine x_icmp_ge (tgt := 56) (pc' := 53) dX12_placeIn_50 (by decide) rfl (fun hn => absurd hn g5) (fun _ => ?_)
        refine x_iload (pc' := 55) dX12_placeIn_53 rfl rfl ?_
        obtain rfl := Option.some.inj h
        exact x_iret dX12_placeIn_55 rfl rfl (Nat.le_of_ble_eq_true rfl) rfl
def F_X12_placeIn (v1 : Int32) (v2 : Int32) (hi : Nat → Nat → Int32) (hl : Nat → Nat → Int64) (r : xRr) : Option (Int32 × xSt) := F_X12_placeIn_5 1000000 v1 v2 hi hl r
set_option maxRecDepth 20000 in
set_option maxHeartbeats 2000000 in
theorem r_X12_placeIn (v1 : Int32) (v2 : Int32) (hi : Nat → Nat → Int32) (hl : Nat → Nat → Int64) (r : xRr) (o : Int32 × xSt) (h : F_X12_placeIn v1 v2 hi hl r = some o) : xM yX12_placeIn cX12_placeIn 5 1 (1, 0, 0) z [.ref 90, .int v1, .int v2] (xhp hi hl r) (xoI o) := by
  refine x_meth2 (C := RX12) (ini := false) (L := [some (.ref 90), some (.int v1), some (.int v2), none, none]) rfl (by decide) (fun h9 => by cases h9) (by decide) (Nat.le_of_ble_eq_true rfl) rfl ?_
  refine x_iload_n (pc' := 1) dX12_placeIn_0 rfl rfl ?_
  refine x_istore_n (pc' := 2) (L' := [some (.ref 90), some (.int v1), some (.int v2), some (.int v1), none]) dX12_placeIn_1 (Nat.le_of_ble_eq_true rfl) rfl rfl ?_
  refine x_iload_n (pc' := 3) dX12_placeIn_2 rfl rfl ?_
  refine x_istore (pc' := 5) (L' := [some (.ref 90), some (.int v1), some (.int v2), some (.int v1), some (.int v2)]) dX12_placeIn_3 (Nat.le_of_ble_eq_true rfl) rfl rfl ?_
  exact r_X12_placeIn_5 1000000 _ _ _ _ _ _ _ _ h
def F_X12_bankOf_2 : Nat → Int32 → (Nat → Nat → Int32) → (Nat → Nat → Int64) → xRr → Option (Int32 × xSt)
  | 0, _, _, _, _ => none
  | n + 1, v2, hi, hl, r => if xok v2 8 = true then if (hi 95 (Int32.toNatClampNeg v2)) ≤ (9 : Int32) then some ((hi 95 (Int32.toNatClampNeg v2)), hi, hl, r) else (F_X12_bankOf_2 n) ((hi 95 (Int32.toNatClampNeg v2)) - (10 : Int32)) hi hl r else none
set_option maxRecDepth 20000 in
set_option maxHeartbeats 2000000 in
theorem r_X12_bankOf_2 : ∀ (n : Nat) (v2 : Int32) (d1 : Option Value) (hi : Nat → Nat → Int32) (hl : Nat → Nat → Int64) (r : xRr) (o : Int32 × xSt), F_X12_bankOf_2 n v2 hi hl r = some o → xR (RX12, cX12_bankOf, 3, false, 1) (0, 0, 0) z 0 0 2 [some (.ref 90), d1, some (.int v2)] [] (xhp hi hl r) (xoI o) := by
  intro n
  induction n with
  | zero =>
    intro v2 d1 hi hl r o h
    have h : none = some o := h
    cases h
  | succ n ih =>
    intro v2 d1 hi hl r o h
    refine x_aload_n (pc' := 3) dX12_bankOf_2 rfl rfl ?_
    refine x_getr (pc' := 6) (t := 95) dX12_bankOf_3 f_X12_23 (by decide) rfl rfl rfl rfl ?_
    refine x_iload_n (pc' := 7) dX12_bankOf_6 rfl rfl ?_
    refine xg_if h (fun g1 h => ?_)
    refine x_iald (pc' := 8) dX12_bankOf_7 (by decide) rfl (xok_in g1) rfl ?_
    refine x_bipush (pc' := 10) (x := 9) dX12_bankOf_8 (by decide) rfl ?_
    refine xg_ite h (fun g2 h => ?_) (fun g2 h => ?_)
    · refine x_icmp_le (tgt := 26) (pc' := 13) dX12_bankOf_10 (by decide) rfl (fun _ => ?_) (fun hn => absurd g2 hn)
      refine x_aload_n (pc' := 27) dX12_bankOf_26 rfl rfl ?_
      refine x_getr (pc' := 30) (t := 95) dX12_bankOf_27 f_X12_23 (by decide) rfl rfl rfl rfl ?_
      refine x_iload_n (pc' := 31) dX12_bankOf_30 rfl rfl ?_
      refine x_iald (pc' := 32) dX12_bankOf_31 (by decide) rfl (xok_in g1) rfl ?_
      obtain rfl := Option.some.inj h
      exact x_iret dX12_bankOf_32 rfl rfl (Nat.le_of_ble_eq_true rfl) rfl
    · refine x_icmp_le (tgt := 26) (pc' := 13) dX12_bankOf_10 (by decide) rfl (fun hn => absurd hn g2) (fun _ => ?_)
      refine x_aload_n (pc' := 14) dX12_bankOf_13 rfl rfl ?_
      refine x_getr (pc' := 17) (t := 95) dX12_bankOf_14 f_X12_23 (by decide) rfl rfl rfl rfl ?_
      refine x_iload_n (pc' := 18) dX12_bankOf_17 rfl rfl ?_
      refine x_iald (pc' := 19) dX12_bankOf_18 (by decide) rfl (xok_in g1) rfl ?_
      refine x_bipush (pc' := 21) (x := 10) dX12_bankOf_19 (by decide) rfl ?_
      refine x_isub (pc' := 22) dX12_bankOf_21 rfl ?_
      refine x_istore_n (pc' := 23) (L' := [some (.ref 90), (xcl d1), some (.int ((hi 95 (Int32.toNatClampNeg v2)) - (10 : Int32)))]) dX12_bankOf_22 (Nat.le_of_ble_eq_true rfl) rfl rfl ?_
      refine x_goto (tgt := 2) dX12_bankOf_23 (by decide) ?_
      exact ih _ _ _ _ _ _ h
def F_X12_bankOf (v1 : Int32) (hi : Nat → Nat → Int32) (hl : Nat → Nat → Int64) (r : xRr) : Option (Int32 × xSt) := F_X12_bankOf_2 1000000 v1 hi hl r
set_option maxRecDepth 20000 in
set_option maxHeartbeats 2000000 in
theorem r_X12_bankOf (v1 : Int32) (hi : Nat → Nat → Int32) (hl : Nat → Nat → Int64) (r : xRr) (o : Int32 × xSt) (h : F_X12_bankOf v1 hi hl r = some o) : xM yX12_bankOf cX12_bankOf 3 1 (0, 0, 0) z [.ref 90, .int v1] (xhp hi hl r) (xoI o) := by
  refine x_meth2 (C := RX12) (ini := false) (L := [some (.ref 90), some (.int v1), none]) rfl (by decide) (fun h9 => by cases h9) (by decide) (Nat.le_of_ble_eq_true rfl) rfl ?_
  refine x_iload_n (pc' := 1) dX12_bankOf_0 rfl rfl ?_
  refine x_istore_n (pc' := 2) (L' := [some (.ref 90), some (.int v1), some (.int v1)]) dX12_bankOf_1 (Nat.le_of_ble_eq_true rfl) rfl rfl ?_
  exact r_X12_bankOf_2 1000000 _ _ _ _ _ _ h
def F_X12_refusedBy (v1 : Int32) (hi : Nat → Nat → Int32) (hl : Nat → Nat → Int64) (r : xRr) : Option (Int32 × xSt) := if xok v1 6 = true then if (hi 91 (Int32.toNatClampNeg v1)) = (11 : Int32) then some (((-5) : Int32), hi, hl, r) else if (hi 91 (Int32.toNatClampNeg v1)) = (12 : Int32) then some (((-6) : Int32), hi, hl, r) else some ((0 : Int32), hi, hl, r) else none
set_option maxRecDepth 20000 in
set_option maxHeartbeats 2000000 in
theorem r_X12_refusedBy (v1 : Int32) (hi : Nat → Nat → Int32) (hl : Nat → Nat → Int64) (r : xRr) (o : Int32 × xSt) (h : F_X12_refusedBy v1 hi hl r = some o) : xM yX12_refusedBy cX12_refusedBy 2 1 (0, 0, 0) z [.ref 90, .int v1] (xhp hi hl r) (xoI o) := by
  refine x_meth2 (C := RX12) (ini := false) (L := [some (.ref 90), some (.int v1)]) rfl (by decide) (fun h9 => by cases h9) (by decide) (Nat.le_of_ble_eq_true rfl) rfl ?_
  refine x_aload_n (pc' := 1) dX12_refusedBy_0 rfl rfl ?_
  refine x_getr (pc' := 4) (t := 91) dX12_refusedBy_1 f_X12_7 (by decide) rfl rfl rfl rfl ?_
  refine x_iload_n (pc' := 5) dX12_refusedBy_4 rfl rfl ?_
  refine xg_if h (fun g1 h => ?_)
  refine x_iald (pc' := 6) dX12_refusedBy_5 (by decide) rfl (xok_in g1) rfl ?_
  refine x_bipush (pc' := 8) (x := 11) dX12_refusedBy_6 (by decide) rfl ?_
  refine xg_ite h (fun g2 h => ?_) (fun g2 h => ?_)
  · refine x_icmp_ne (tgt := 16) (pc' := 11) dX12_refusedBy_8 (by decide) rfl (fun hn => absurd g2 hn) (fun _ => ?_)
    refine x_bipush (pc' := 13) (x := (-5)) dX12_refusedBy_11 (by decide) rfl ?_
    refine x_goto (tgt := 33) dX12_refusedBy_13 (by decide) ?_
    obtain rfl := Option.some.inj h
    exact x_iret dX12_refusedBy_33 rfl rfl (Nat.le_of_ble_eq_true rfl) rfl
  · refine x_icmp_ne (tgt := 16) (pc' := 11) dX12_refusedBy_8 (by decide) rfl (fun _ => ?_) (fun hn => absurd hn g2)
    refine x_aload_n (pc' := 17) dX12_refusedBy_16 rfl rfl ?_
    refine x_getr (pc' := 20) (t := 91) dX12_refusedBy_17 f_X12_7 (by decide) rfl rfl rfl rfl ?_
    refine x_iload_n (pc' := 21) dX12_refusedBy_20 rfl rfl ?_
    refine x_iald (pc' := 22) dX12_refusedBy_21 (by decide) rfl (xok_in g1) rfl ?_
    refine x_bipush (pc' := 24) (x := 12) dX12_refusedBy_22 (by decide) rfl ?_
    refine xg_ite h (fun g3 h => ?_) (fun g3 h => ?_)
    · refine x_icmp_ne (tgt := 32) (pc' := 27) dX12_refusedBy_24 (by decide) rfl (fun hn => absurd g3 hn) (fun _ => ?_)
      refine x_bipush (pc' := 29) (x := (-6)) dX12_refusedBy_27 (by decide) rfl ?_
      refine x_goto (tgt := 33) dX12_refusedBy_29 (by decide) ?_
      obtain rfl := Option.some.inj h
      exact x_iret dX12_refusedBy_33 rfl rfl (Nat.le_of_ble_eq_true rfl) rfl
    · refine x_icmp_ne (tgt := 32) (pc' := 27) dX12_refusedBy_24 (by decide) rfl (fun _ => ?_) (fun hn => absurd hn g3)
      refine x_iconst (pc' := 33) (x := 0) dX12_refusedBy_32 (by decide) rfl ?_
      obtain rfl := Option.some.inj h
      exact x_iret dX12_refusedBy_33 rfl rfl (Nat.le_of_ble_eq_true rfl) rfl
def F_X12_under_2 : Nat → Int32 → Int32 → (Nat → Nat → Int32) → (Nat → Nat → Int64) → xRr → Option (Int32 × xSt)
  | 0, _, _, _, _, _ => none
  | n + 1, v2, v3, hi, hl, r => if xok v3 8 = true then if (hi 100 (Int32.toNatClampNeg v3)) ≤ (v2 + (1 : Int32)) then some (v3, hi, hl, r) else (F_X12_under_2 n) v2 ((hi 95 (Int32.toNatClampNeg v3)) - (10 : Int32)) hi hl r else none
set_option maxRecDepth 20000 in
set_option maxHeartbeats 2000000 in
theorem r_X12_under_2 : ∀ (n : Nat) (v2 : Int32) (v3 : Int32) (d1 : Option Value) (hi : Nat → Nat → Int32) (hl : Nat → Nat → Int64) (r : xRr) (o : Int32 × xSt), F_X12_under_2 n v2 v3 hi hl r = some o → xR (RX12, cX12_under, 4, false, 1) (0, 0, 0) z 0 0 2 [some (.ref 90), d1, some (.int v2), some (.int v3)] [] (xhp hi hl r) (xoI o) := by
  intro n
  induction n with
  | zero =>
    intro v2 v3 d1 hi hl r o h
    have h : none = some o := h
    cases h
  | succ n ih =>
    intro v2 v3 d1 hi hl r o h
    refine x_aload_n (pc' := 3) dX12_under_2 rfl rfl ?_
    refine x_getr (pc' := 6) (t := 100) dX12_under_3 f_X12_38 (by decide) rfl rfl rfl rfl ?_
    refine x_iload_n (pc' := 7) dX12_under_6 rfl rfl ?_
    refine xg_if h (fun g1 h => ?_)
    refine x_iald (pc' := 8) dX12_under_7 (by decide) rfl (xok_in g1) rfl ?_
    refine x_iload_n (pc' := 9) dX12_under_8 rfl rfl ?_
    refine x_iconst (pc' := 10) (x := 1) dX12_under_9 (by decide) rfl ?_
    refine x_iadd (pc' := 11) dX12_under_10 rfl ?_
    refine xg_ite h (fun g2 h => ?_) (fun g2 h => ?_)
    · refine x_icmp_le (tgt := 27) (pc' := 14) dX12_under_11 (by decide) rfl (fun _ => ?_) (fun hn => absurd g2 hn)
      refine x_iload_n (pc' := 28) dX12_under_27 rfl rfl ?_
      obtain rfl := Option.some.inj h
      exact x_iret dX12_under_28 rfl rfl (Nat.le_of_ble_eq_true rfl) rfl
    · refine x_icmp_le (tgt := 27) (pc' := 14) dX12_under_11 (by decide) rfl (fun hn => absurd hn g2) (fun _ => ?_)
      refine x_aload_n (pc' := 15) dX12_under_14 rfl rfl ?_
      refine x_getr (pc' := 18) (t := 95) dX12_under_15 f_X12_23 (by decide) rfl rfl rfl rfl ?_
      refine x_iload_n (pc' := 19) dX12_under_18 rfl rfl ?_
      refine x_iald (pc' := 20) dX12_under_19 (by decide) rfl (xok_in g1) rfl ?_
      refine x_bipush (pc' := 22) (x := 10) dX12_under_20 (by decide) rfl ?_
      refine x_isub (pc' := 23) dX12_under_22 rfl ?_
      refine x_istore_n (pc' := 24) (L' := [some (.ref 90), d1, some (.int v2), some (.int ((hi 95 (Int32.toNatClampNeg v3)) - (10 : Int32)))]) dX12_under_23 (Nat.le_of_ble_eq_true rfl) rfl rfl ?_
      refine x_goto (tgt := 2) dX12_under_24 (by decide) ?_
      exact ih _ _ _ _ _ _ _ h
def F_X12_under (v1 : Int32) (v2 : Int32) (hi : Nat → Nat → Int32) (hl : Nat → Nat → Int64) (r : xRr) : Option (Int32 × xSt) := F_X12_under_2 1000000 v2 v1 hi hl r
set_option maxRecDepth 20000 in
set_option maxHeartbeats 2000000 in
theorem r_X12_under (v1 : Int32) (v2 : Int32) (hi : Nat → Nat → Int32) (hl : Nat → Nat → Int64) (r : xRr) (o : Int32 × xSt) (h : F_X12_under v1 v2 hi hl r = some o) : xM yX12_under cX12_under 4 1 (0, 0, 0) z [.ref 90, .int v1, .int v2] (xhp hi hl r) (xoI o) := by
  refine x_meth2 (C := RX12) (ini := false) (L := [some (.ref 90), some (.int v1), some (.int v2), none]) rfl (by decide) (fun h9 => by cases h9) (by decide) (Nat.le_of_ble_eq_true rfl) rfl ?_
  refine x_iload_n (pc' := 1) dX12_under_0 rfl rfl ?_
  refine x_istore_n (pc' := 2) (L' := [some (.ref 90), some (.int v1), some (.int v2), some (.int v1)]) dX12_under_1 (Nat.le_of_ble_eq_true rfl) rfl rfl ?_
  exact r_X12_under_2 1000000 _ _ _ _ _ _ _ h
def F_X12_isCell (v1 : Int32) (v2 : Int32) (hi : Nat → Nat → Int32) (hl : Nat → Nat → Int64) (r : xRr) : Option (Int32 × xSt) := if xok v1 6 = true then xbP (F_X12_in (Int32.toInt64 v2) (0 : Int64) (Int32.toInt64 ((hi 92 (Int32.toNatClampNeg v1)) - (1 : Int32)))) (fun w3 => if w3 = 0 ∨ w3 = 1 then some (w3, hi, hl, r) else none) else none
set_option maxRecDepth 20000 in
set_option maxHeartbeats 2000000 in
theorem r_X12_isCell (v1 : Int32) (v2 : Int32) (hi : Nat → Nat → Int32) (hl : Nat → Nat → Int64) (r : xRr) (o : Int32 × xSt) (h : F_X12_isCell v1 v2 hi hl r = some o) : xM yX12_isCell cX12_isCell 3 3 (1, 0, 0) z [.ref 90, .int v1, .int v2] (xhp hi hl r) (xoI o) := by
  refine x_meth2 (C := RX12) (ini := false) (L := [some (.ref 90), some (.int v1), some (.int v2)]) rfl (by decide) (fun h9 => by cases h9) (by decide) (Nat.le_of_ble_eq_true rfl) rfl ?_
  refine x_iload_n (pc' := 1) dX12_isCell_0 rfl rfl ?_
  refine x_i2l (pc' := 2) dX12_isCell_1 rfl ?_
  refine x_lconst (pc' := 3) (x := 0) dX12_isCell_2 (by decide) rfl ?_
  refine x_aload_n (pc' := 4) dX12_isCell_3 rfl rfl ?_
  refine x_getr (pc' := 7) (t := 92) dX12_isCell_4 f_X12_13 (by decide) rfl rfl rfl rfl ?_
  refine x_iload_n (pc' := 8) dX12_isCell_7 rfl rfl ?_
  refine xg_if h (fun g1 h => ?_)
  refine x_iald (pc' := 9) dX12_isCell_8 (by decide) rfl (xok_in g1) rfl ?_
  refine x_iconst (pc' := 10) (x := 1) dX12_isCell_9 (by decide) rfl ?_
  refine x_isub (pc' := 11) dX12_isCell_10 rfl ?_
  refine x_i2l (pc' := 12) dX12_isCell_11 rfl ?_
  refine xg_bP h (fun w3 e2 h => ?_)
  refine x_callS (pc' := 15) (S := []) (As := [.long (Int32.toInt64 v2), .long (0 : Int64), .long (Int32.toInt64 ((hi 92 (Int32.toNatClampNeg v1)) - (1 : Int32)))]) (b' := (0, 0, 0)) dX12_isCell_12 l_X12_118 m_X12_in rfl rfl (Nat.le_of_ble_eq_true rfl) (Nat.le_of_ble_eq_true rfl) (Nat.le_of_ble_eq_true rfl) (Nat.le_of_ble_eq_true rfl) (r_X12_in _ _ _ _ _ e2) rfl ?_
  refine xg_or h (fun g4 h => ?_)
  obtain rfl := Option.some.inj h
  exact x_zret dX12_isCell_15 rfl g4 rfl (Nat.le_of_ble_eq_true rfl) rfl
def F_X12_widens (v0 : Int32) (v1 : Int32) : Option (Int32) := if (7 : Int32) < v0 then some (0 : Int32) else if v1 ≤ (7 : Int32) then if v0 = v1 then some (1 : Int32) else if v0 = 0 then some (0 : Int32) else if (3 : Int32) ≤ v1 then if v1 = (3 : Int32) then if v0 = (1 : Int32) then some (1 : Int32) else some (0 : Int32) else if v1 ≤ v0 then some (0 : Int32) else some (1 : Int32) else some (0 : Int32) else some (0 : Int32)
set_option maxRecDepth 20000 in
set_option maxHeartbeats 2000000 in
theorem r_X12_widens (v0 : Int32) (v1 : Int32) (H : xHp) (o : Int32) (h : F_X12_widens v0 v1 = some o) : xM yX12_widens cX12_widens 2 3 (0, 0, 0) z [.int v0, .int v1] H (some (.int o), H) := by
  refine x_meth2 (C := RX12) (ini := false) (L := [some (.int v0), some (.int v1)]) rfl (by decide) (fun h9 => by cases h9) (by decide) (Nat.le_of_ble_eq_true rfl) rfl ?_
  refine x_iload_n (pc' := 1) dX12_widens_0 rfl rfl ?_
  refine x_bipush (pc' := 3) (x := 7) dX12_widens_1 (by decide) rfl ?_
  refine xg_ite h (fun g1 h => ?_) (fun g1 h => ?_)
  · refine x_icmp_gt (tgt := 12) (pc' := 6) dX12_widens_3 (by decide) rfl (fun _ => ?_) (fun hn => absurd g1 hn)
    refine x_iconst (pc' := 13) (x := 0) dX12_widens_12 (by decide) rfl ?_
    obtain rfl := Option.some.inj h
    exact x_zret dX12_widens_13 rfl (Or.inl rfl) rfl (Nat.le_of_ble_eq_true rfl) rfl
  · refine x_icmp_gt (tgt := 12) (pc' := 6) dX12_widens_3 (by decide) rfl (fun hn => absurd hn g1) (fun _ => ?_)
    refine x_iload_n (pc' := 7) dX12_widens_6 rfl rfl ?_
    refine x_bipush (pc' := 9) (x := 7) dX12_widens_7 (by decide) rfl ?_
    refine xg_ite h (fun g2 h => ?_) (fun g2 h => ?_)
    · refine x_icmp_le (tgt := 14) (pc' := 12) dX12_widens_9 (by decide) rfl (fun _ => ?_) (fun hn => absurd g2 hn)
      refine x_iload_n (pc' := 15) dX12_widens_14 rfl rfl ?_
      refine x_iload_n (pc' := 16) dX12_widens_15 rfl rfl ?_
      refine xg_ite h (fun g3 h => ?_) (fun g3 h => ?_)
      · refine x_icmp_ne (tgt := 21) (pc' := 19) dX12_widens_16 (by decide) rfl (fun hn => absurd g3 hn) (fun _ => ?_)
        refine x_iconst (pc' := 20) (x := 1) dX12_widens_19 (by decide) rfl ?_
        obtain rfl := Option.some.inj h
        exact x_zret dX12_widens_20 rfl (Or.inr rfl) rfl (Nat.le_of_ble_eq_true rfl) rfl
      · refine x_icmp_ne (tgt := 21) (pc' := 19) dX12_widens_16 (by decide) rfl (fun _ => ?_) (fun hn => absurd hn g3)
        refine x_iload_n (pc' := 22) dX12_widens_21 rfl rfl ?_
        refine xg_ite h (fun g4 h => ?_) (fun g4 h => ?_)
        · refine x_if_eq (tgt := 30) (pc' := 25) dX12_widens_22 (by decide) rfl (fun _ => ?_) (fun hn => absurd g4 hn)
          refine x_iconst (pc' := 31) (x := 0) dX12_widens_30 (by decide) rfl ?_
          obtain rfl := Option.some.inj h
          exact x_zret dX12_widens_31 rfl (Or.inl rfl) rfl (Nat.le_of_ble_eq_true rfl) rfl
        · refine x_if_eq (tgt := 30) (pc' := 25) dX12_widens_22 (by decide) rfl (fun hn => absurd hn g4) (fun _ => ?_)
          refine x_iload_n (pc' := 26) dX12_widens_25 rfl rfl ?_
          refine x_iconst (pc' := 27) (x := 3) dX12_widens_26 (by decide) rfl ?_
          refine xg_ite h (fun g5 h => ?_) (fun g5 h => ?_)
          · refine x_icmp_ge (tgt := 32) (pc' := 30) dX12_widens_27 (by decide) rfl (fun _ => ?_) (fun hn => absurd g5 hn)
            refine x_iload_n (pc' := 33) dX12_widens_32 rfl rfl ?_
            refine x_iconst (pc' := 34) (x := 3) dX12_widens_33 (by decide) rfl ?_
            refine xg_ite h (fun g6 h => ?_) (fun g6 h => ?_)
            · refine x_icmp_ne (tgt := 50) (pc' := 37) dX12_widens_34 (by decide) rfl (fun hn => absurd g6 hn) (fun _ => ?_)
              refine x_iload_n (pc' := 38) dX12_widens_37 rfl rfl ?_
              refine x_iconst (pc' := 39) (x := 1) dX12_widens_38 (by decide) rfl ?_
              refine xg_ite h (fun g7 h => ?_) (fun g7 h => ?_)
              · refine x_icmp_ne (tgt := 46) (pc' := 42) dX12_widens_39 (by decide) rfl (fun hn => absurd g7 hn) (fun _ => ?_)
                refine x_iconst (pc' := 43) (x := 1) dX12_widens_42 (by decide) rfl ?_
                refine x_goto (tgt := 60) dX12_widens_43 (by decide) ?_
                obtain rfl := Option.some.inj h
                exact x_zret dX12_widens_60 rfl (Or.inr rfl) rfl (Nat.le_of_ble_eq_true rfl) rfl
              · refine x_icmp_ne (tgt := 46) (pc' := 42) dX12_widens_39 (by decide) rfl (fun _ => ?_) (fun hn => absurd hn g7)
                refine x_iconst (pc' := 47) (x := 0) dX12_widens_46 (by decide) rfl ?_
                refine x_goto (tgt := 60) dX12_widens_47 (by decide) ?_
                obtain rfl := Option.some.inj h
                exact x_zret dX12_widens_60 rfl (Or.inl rfl) rfl (Nat.le_of_ble_eq_true rfl) rfl
            · refine x_icmp_ne (tgt := 50) (pc' := 37) dX12_widens_34 (by decide) rfl (fun _ => ?_) (fun hn => absurd hn g6)
              refine x_iload_n (pc' := 51) dX12_widens_50 rfl rfl ?_
              refine x_iload_n (pc' := 52) dX12_widens_51 rfl rfl ?_
              refine xg_ite h (fun g8 h => ?_) (fun g8 h => ?_)
              · refine x_icmp_ge (tgt := 59) (pc' := 55) dX12_widens_52 (by decide) rfl (fun _ => ?_) (fun hn => absurd g8 hn)
                refine x_iconst (pc' := 60) (x := 0) dX12_widens_59 (by decide) rfl ?_
                obtain rfl := Option.some.inj h
                exact x_zret dX12_widens_60 rfl (Or.inl rfl) rfl (Nat.le_of_ble_eq_true rfl) rfl
              · refine x_icmp_ge (tgt := 59) (pc' := 55) dX12_widens_52 (by decide) rfl (fun hn => absurd hn g8) (fun _ => ?_)
                refine x_iconst (pc' := 56) (x := 1) dX12_widens_55 (by decide) rfl ?_
                refine x_goto (tgt := 60) dX12_widens_56 (by decide) ?_
                obtain rfl := Option.some.inj h
                exact x_zret dX12_widens_60 rfl (Or.inr rfl) rfl (Nat.le_of_ble_eq_true rfl) rfl
          · refine x_icmp_ge (tgt := 32) (pc' := 30) dX12_widens_27 (by decide) rfl (fun hn => absurd hn g5) (fun _ => ?_)
            refine x_iconst (pc' := 31) (x := 0) dX12_widens_30 (by decide) rfl ?_
            obtain rfl := Option.some.inj h
            exact x_zret dX12_widens_31 rfl (Or.inl rfl) rfl (Nat.le_of_ble_eq_true rfl) rfl
    · refine x_icmp_le (tgt := 14) (pc' := 12) dX12_widens_9 (by decide) rfl (fun hn => absurd hn g2) (fun _ => ?_)
      refine x_iconst (pc' := 13) (x := 0) dX12_widens_12 (by decide) rfl ?_
      obtain rfl := Option.some.inj h
      exact x_zret dX12_widens_13 rfl (Or.inl rfl) rfl (Nat.le_of_ble_eq_true rfl) rfl
def F_X12_rounded_92 (v0 : Int64) (v5 : Int64) (s0 : Int64) (s1 : Int64) : Option (Int64) := if 0 ≤ (lg_cmp v0 (0 : Int64)) then some ((s0 + s1) * v5) else some ((-(s0 + s1)) * v5)
set_option maxRecDepth 20000 in
set_option maxHeartbeats 2000000 in
theorem r_X12_rounded_92 (v0 : Int64) (v5 : Int64) (s0 : Int64) (s1 : Int64) (d1 : Option Value) (d2 : Option Value) (d3 : Option Value) (d4 : Option Value) (d6 : Option Value) (d7 : Option Value) (d8 : Option Value) (d9 : Option Value) (d10 : Option Value) (H : xHp) (o : Int64) (h : F_X12_rounded_92 v0 v5 s0 s1 = some o) : xR (RX12, cX12_rounded, 11, false, 2) (0, 0, 0) z 0 0 92 [some (.long v0), d1, d2, d3, d4, some (.long v5), d6, d7, d8, d9, d10] [.long s1, .long s0] H (some (.long o), H) := by
  refine x_ladd (pc' := 93) dX12_rounded_92 rfl ?_
  refine x_lstore (pc' := 95) (L' := [some (.long v0), d1, d2, d3, d4, some (.long v5), d6, d7, (xcl d8), some (.long (s0 + s1)), none]) dX12_rounded_93 (Nat.le_of_ble_eq_true rfl) rfl rfl ?_
  refine x_lload_n (pc' := 96) dX12_rounded_95 rfl rfl ?_
  refine x_lconst (pc' := 97) (x := 0) dX12_rounded_96 (by decide) rfl ?_
  refine x_lcmp (pc' := 98) dX12_rounded_97 rfl ?_
  refine xg_ite h (fun g1 h => ?_) (fun g1 h => ?_)
  · refine x_if_ge (tgt := 110) (pc' := 101) dX12_rounded_98 (by decide) rfl (fun _ => ?_) (fun hn => absurd g1 hn)
    refine x_lload (pc' := 112) dX12_rounded_110 rfl rfl ?_
    refine x_lload (pc' := 114) dX12_rounded_112 rfl rfl ?_
    refine x_lmul (pc' := 115) dX12_rounded_114 rfl ?_
    obtain rfl := Option.some.inj h
    exact x_lret dX12_rounded_115 rfl rfl (Nat.le_of_ble_eq_true rfl) rfl
  · refine x_if_ge (tgt := 110) (pc' := 101) dX12_rounded_98 (by decide) rfl (fun hn => absurd hn g1) (fun _ => ?_)
    refine x_lload (pc' := 103) dX12_rounded_101 rfl rfl ?_
    refine x_lneg (pc' := 104) dX12_rounded_103 rfl ?_
    refine x_lload (pc' := 106) dX12_rounded_104 rfl rfl ?_
    refine x_lmul (pc' := 107) dX12_rounded_106 rfl ?_
    refine x_goto (tgt := 115) dX12_rounded_107 (by decide) ?_
    obtain rfl := Option.some.inj h
    exact x_lret dX12_rounded_115 rfl rfl (Nat.le_of_ble_eq_true rfl) rfl
def F_X12_rounded_87 (v0 : Int64) (v5 : Int64) (s0 : Int64) : Option (Int64) := F_X12_rounded_92 v0 v5 s0 (1 : Int64)
set_option maxRecDepth 20000 in
set_option maxHeartbeats 2000000 in
theorem r_X12_rounded_87 (v0 : Int64) (v5 : Int64) (s0 : Int64) (d1 : Option Value) (d2 : Option Value) (d3 : Option Value) (d4 : Option Value) (d6 : Option Value) (d7 : Option Value) (d8 : Option Value) (d9 : Option Value) (d10 : Option Value) (H : xHp) (o : Int64) (h : F_X12_rounded_87 v0 v5 s0 = some o) : xR (RX12, cX12_rounded, 11, false, 2) (0, 0, 0) z 0 0 87 [some (.long v0), d1, d2, d3, d4, some (.long v5), d6, d7, d8, d9, d10] [.long s0] H (some (.long o), H) := by
  refine x_lconst (pc' := 88) (x := 1) dX12_rounded_87 (by decide) rfl ?_
  refine x_goto (tgt := 92) dX12_rounded_88 (by decide) ?_
  exact r_X12_rounded_92 _ _ _ _ _ _ _ _ _ _ _ _ _ _ _ h
def F_X12_rounded_91 (v0 : Int64) (v5 : Int64) (s0 : Int64) : Option (Int64) := F_X12_rounded_92 v0 v5 s0 (0 : Int64)
set_option maxRecDepth 20000 in
set_option maxHeartbeats 2000000 in
theorem r_X12_rounded_91 (v0 : Int64) (v5 : Int64) (s0 : Int64) (d1 : Option Value) (d2 : Option Value) (d3 : Option Value) (d4 : Option Value) (d6 : Option Value) (d7 : Option Value) (d8 : Option Value) (d9 : Option Value) (d10 : Option Value) (H : xHp) (o : Int64) (h : F_X12_rounded_91 v0 v5 s0 = some o) : xR (RX12, cX12_rounded, 11, false, 2) (0, 0, 0) z 0 0 91 [some (.long v0), d1, d2, d3, d4, some (.long v5), d6, d7, d8, d9, d10] [.long s0] H (some (.long o), H) := by
  refine x_lconst (pc' := 92) (x := 0) dX12_rounded_91 (by decide) rfl ?_
  exact r_X12_rounded_92 _ _ _ _ _ _ _ _ _ _ _ _ _ _ _ h
def F_X12_rounded_16 : Nat → Int64 → Int32 → Int64 → Int64 → Option (Int64)
  | 0, _, _, _, _ => none
  | n + 1, v0, v2, v3, v5 => if v5 = 0 then none else if (lg_cmp (v3 / v5) ((1 : Int64) <<< ((Int32.toInt64 v2) &&& 63))) < 0 then if 0 < (lg_cmp ((2 : Int64) * (v3 - v3 / v5 * v5)) v5) then F_X12_rounded_87 v0 v5 (v3 / v5) else if (lg_cmp ((2 : Int64) * (v3 - v3 / v5 * v5)) v5) = 0 then if (2 : Int64) = 0 then none else if (lg_cmp ((v3 / v5) - (v3 / v5) / (2 : Int64) * (2 : Int64)) (1 : Int64)) = 0 then F_X12_rounded_87 v0 v5 (v3 / v5) else F_X12_rounded_91 v0 v5 (v3 / v5) else F_X12_rounded_91 v0 v5 (v3 / v5) else (F_X12_rounded_16 n) v0 v2 v3 (v5 * (2 : Int64))
set_option maxRecDepth 20000 in
set_option maxHeartbeats 2000000 in
theorem r_X12_rounded_16 : ∀ (n : Nat) (v0 : Int64) (v2 : Int32) (v3 : Int64) (v5 : Int64) (d1 : Option Value) (d4 : Option Value) (d6 : Option Value) (d7 : Option Value) (d8 : Option Value) (d9 : Option Value) (d10 : Option Value) (H : xHp) (o : Int64), F_X12_rounded_16 n v0 v2 v3 v5 = some o → xR (RX12, cX12_rounded, 11, false, 2) (0, 0, 0) z 0 0 16 [some (.long v0), d1, some (.int v2), some (.long v3), d4, some (.long v5), d6, d7, d8, d9, d10] [] H (some (.long o), H) := by
  intro n
  induction n with
  | zero =>
    intro v0 v2 v3 v5 d1 d4 d6 d7 d8 d9 d10 H o h
    have h : none = some o := h
    cases h
  | succ n ih =>
    intro v0 v2 v3 v5 d1 d4 d6 d7 d8 d9 d10 H o h
    refine x_lload_n (pc' := 17) dX12_rounded_16 rfl rfl ?_
    refine x_lload (pc' := 19) dX12_rounded_17 rfl rfl ?_
    refine xg_nz h (fun g1 h => ?_)
    refine x_ldiv (pc' := 20) dX12_rounded_19 g1 rfl ?_
    refine x_lconst (pc' := 21) (x := 1) dX12_rounded_20 (by decide) rfl ?_
    refine x_iload_n (pc' := 22) dX12_rounded_21 rfl rfl ?_
    refine x_lshl (pc' := 23) dX12_rounded_22 rfl ?_
    refine x_lcmp (pc' := 24) dX12_rounded_23 rfl ?_
    refine xg_ite h (fun g2 h => ?_) (fun g2 h => ?_)
    · refine x_if_lt (tgt := 38) (pc' := 27) dX12_rounded_24 (by decide) rfl (fun _ => ?_) (fun hn => absurd g2 hn)
      refine x_lload_n (pc' := 39) dX12_rounded_38 rfl rfl ?_
      refine x_lload (pc' := 41) dX12_rounded_39 rfl rfl ?_
      refine x_lrem (pc' := 42) dX12_rounded_41 g1 rfl ?_
      refine x_lstore (pc' := 44) (L' := [some (.long v0), d1, some (.int v2), some (.long v3), d4, some (.long v5), (xcl d6), some (.long (v3 - v3 / v5 * v5)), none, d9, d10]) dX12_rounded_42 (Nat.le_of_ble_eq_true rfl) rfl rfl ?_
      refine x_lload_n (pc' := 45) dX12_rounded_44 rfl rfl ?_
      refine x_lload (pc' := 47) dX12_rounded_45 rfl rfl ?_
      refine x_ldiv (pc' := 48) dX12_rounded_47 g1 rfl ?_
      refine x_lstore (pc' := 50) (L' := [some (.long v0), d1, some (.int v2), some (.long v3), d4, some (.long v5), (xcl d6), some (.long (v3 - v3 / v5 * v5)), none, some (.long (v3 / v5)), none]) dX12_rounded_48 (Nat.le_of_ble_eq_true rfl) rfl rfl ?_
      refine x_lload (pc' := 52) dX12_rounded_50 rfl rfl ?_
      refine x_ldc2 (pc' := 55) dX12_rounded_52 k_X12_112 rfl ?_
      refine x_lload (pc' := 57) dX12_rounded_55 rfl rfl ?_
      refine x_lmul (pc' := 58) dX12_rounded_57 rfl ?_
      refine x_lload (pc' := 60) dX12_rounded_58 rfl rfl ?_
      refine x_lcmp (pc' := 61) dX12_rounded_60 rfl ?_
      refine xg_ite h (fun g3 h => ?_) (fun g3 h => ?_)
      · refine x_if_gt (tgt := 87) (pc' := 64) dX12_rounded_61 (by decide) rfl (fun _ => ?_) (fun hn => absurd g3 hn)
        exact r_X12_rounded_87 _ _ _ _ _ _ _ _ _ _ _ _ _ _ h
      · refine x_if_gt (tgt := 87) (pc' := 64) dX12_rounded_61 (by decide) rfl (fun hn => absurd hn g3) (fun _ => ?_)
        refine x_ldc2 (pc' := 67) dX12_rounded_64 k_X12_112 rfl ?_
        refine x_lload (pc' := 69) dX12_rounded_67 rfl rfl ?_
        refine x_lmul (pc' := 70) dX12_rounded_69 rfl ?_
        refine x_lload (pc' := 72) dX12_rounded_70 rfl rfl ?_
        refine x_lcmp (pc' := 73) dX12_rounded_72 rfl ?_
        refine xg_ite h (fun g4 h => ?_) (fun g4 h => ?_)
        · refine x_if_ne (tgt := 91) (pc' := 76) dX12_rounded_73 (by decide) rfl (fun hn => absurd g4 hn) (fun _ => ?_)
          refine x_lload (pc' := 78) dX12_rounded_76 rfl rfl ?_
          refine x_ldc2 (pc' := 81) dX12_rounded_78 k_X12_112 rfl ?_
          refine xg_nz h (fun g5 h => ?_)
          refine x_lrem (pc' := 82) dX12_rounded_81 g5 rfl ?_
          refine x_lconst (pc' := 83) (x := 1) dX12_rounded_82 (by decide) rfl ?_
          refine x_lcmp (pc' := 84) dX12_rounded_83 rfl ?_
          refine xg_ite h (fun g6 h => ?_) (fun g6 h => ?_)
          · refine x_if_ne (tgt := 91) (pc' := 87) dX12_rounded_84 (by decide) rfl (fun hn => absurd g6 hn) (fun _ => ?_)
            exact r_X12_rounded_87 _ _ _ _ _ _ _ _ _ _ _ _ _ _ h
          · refine x_if_ne (tgt := 91) (pc' := 87) dX12_rounded_84 (by decide) rfl (fun _ => ?_) (fun hn => absurd hn g6)
            exact r_X12_rounded_91 _ _ _ _ _ _ _ _ _ _ _ _ _ _ h
        · refine x_if_ne (tgt := 91) (pc' := 76) dX12_rounded_73 (by decide) rfl (fun _ => ?_) (fun hn => absurd hn g4)
          exact r_X12_rounded_91 _ _ _ _ _ _ _ _ _ _ _ _ _ _ h
    · refine x_if_lt (tgt := 38) (pc' := 27) dX12_rounded_24 (by decide) rfl (fun hn => absurd hn g2) (fun _ => ?_)
      refine x_lload (pc' := 29) dX12_rounded_27 rfl rfl ?_
      refine x_ldc2 (pc' := 32) dX12_rounded_29 k_X12_112 rfl ?_
      refine x_lmul (pc' := 33) dX12_rounded_32 rfl ?_
      refine x_lstore (pc' := 35) (L' := [some (.long v0), d1, some (.int v2), some (.long v3), (xcl d4), some (.long (v5 * (2 : Int64))), none, d7, d8, d9, d10]) dX12_rounded_33 (Nat.le_of_ble_eq_true rfl) rfl rfl ?_
      refine x_goto (tgt := 16) dX12_rounded_35 (by decide) ?_
      exact ih _ _ _ _ _ _ _ _ _ _ _ _ _ h
def F_X12_rounded_12 (v0 : Int64) (v2 : Int32) (s0 : Int64) : Option (Int64) := F_X12_rounded_16 1000000 v0 v2 s0 (1 : Int64)
set_option maxRecDepth 20000 in
set_option maxHeartbeats 2000000 in
theorem r_X12_rounded_12 (v0 : Int64) (v2 : Int32) (s0 : Int64) (d1 : Option Value) (d3 : Option Value) (d4 : Option Value) (d5 : Option Value) (d6 : Option Value) (d7 : Option Value) (d8 : Option Value) (d9 : Option Value) (d10 : Option Value) (H : xHp) (o : Int64) (h : F_X12_rounded_12 v0 v2 s0 = some o) : xR (RX12, cX12_rounded, 11, false, 2) (0, 0, 0) z 0 0 12 [some (.long v0), d1, some (.int v2), d3, d4, d5, d6, d7, d8, d9, d10] [.long s0] H (some (.long o), H) := by
  refine x_lstore_n (pc' := 13) (L' := [some (.long v0), d1, some (.int v2), some (.long s0), none, d5, d6, d7, d8, d9, d10]) dX12_rounded_12 (Nat.le_of_ble_eq_true rfl) rfl rfl ?_
  refine x_lconst (pc' := 14) (x := 1) dX12_rounded_13 (by decide) rfl ?_
  refine x_lstore (pc' := 16) (L' := [some (.long v0), d1, some (.int v2), some (.long s0), none, some (.long (1 : Int64)), none, d7, d8, d9, d10]) dX12_rounded_14 (Nat.le_of_ble_eq_true rfl) rfl rfl ?_
  exact r_X12_rounded_16 1000000 _ _ _ _ _ _ _ _ _ _ _ _ _ h
def F_X12_rounded (v0 : Int64) (v2 : Int32) : Option (Int64) := if 0 ≤ (lg_cmp v0 (0 : Int64)) then F_X12_rounded_12 v0 v2 v0 else F_X12_rounded_12 v0 v2 (-v0)
set_option maxRecDepth 20000 in
set_option maxHeartbeats 2000000 in
theorem r_X12_rounded (v0 : Int64) (v2 : Int32) (H : xHp) (o : Int64) (h : F_X12_rounded v0 v2 = some o) : xM yX12_rounded cX12_rounded 11 2 (0, 0, 0) z [.long v0, .int v2] H (some (.long o), H) := by
  refine x_meth2 (C := RX12) (ini := false) (L := [some (.long v0), none, some (.int v2), none, none, none, none, none, none, none, none]) rfl (by decide) (fun h9 => by cases h9) (by decide) (Nat.le_of_ble_eq_true rfl) rfl ?_
  refine x_lload_n (pc' := 1) dX12_rounded_0 rfl rfl ?_
  refine x_lconst (pc' := 2) (x := 0) dX12_rounded_1 (by decide) rfl ?_
  refine x_lcmp (pc' := 3) dX12_rounded_2 rfl ?_
  refine xg_ite h (fun g1 h => ?_) (fun g1 h => ?_)
  · refine x_if_ge (tgt := 11) (pc' := 6) dX12_rounded_3 (by decide) rfl (fun _ => ?_) (fun hn => absurd g1 hn)
    refine x_lload_n (pc' := 12) dX12_rounded_11 rfl rfl ?_
    exact r_X12_rounded_12 _ _ _ _ _ _ _ _ _ _ _ _ _ _ h
  · refine x_if_ge (tgt := 11) (pc' := 6) dX12_rounded_3 (by decide) rfl (fun hn => absurd hn g1) (fun _ => ?_)
    refine x_lload_n (pc' := 7) dX12_rounded_6 rfl rfl ?_
    refine x_lneg (pc' := 8) dX12_rounded_7 rfl ?_
    refine x_goto (tgt := 12) dX12_rounded_8 (by decide) ?_
    exact r_X12_rounded_12 _ _ _ _ _ _ _ _ _ _ _ _ _ _ h
def F_X12_as (v0 : Int32) (v1 : Int64) : Option (Int64) := if v0 = (6 : Int32) then xbP (F_X12_rounded v1 (24 : Int32)) (fun w3 => some w3) else if v0 = (7 : Int32) then xbP (F_X12_rounded v1 (53 : Int32)) (fun w6 => some w6) else some v1
set_option maxRecDepth 20000 in
set_option maxHeartbeats 2000000 in
theorem r_X12_as (v0 : Int32) (v1 : Int64) (H : xHp) (o : Int64) (h : F_X12_as v0 v1 = some o) : xM yX12_as cX12_as 3 2 (1, 0, 0) z [.int v0, .long v1] H (some (.long o), H) := by
  refine x_meth2 (C := RX12) (ini := false) (L := [some (.int v0), some (.long v1), none]) rfl (by decide) (fun h9 => by cases h9) (by decide) (Nat.le_of_ble_eq_true rfl) rfl ?_
  refine x_iload_n (pc' := 1) dX12_as_0 rfl rfl ?_
  refine x_bipush (pc' := 3) (x := 6) dX12_as_1 (by decide) rfl ?_
  refine xg_ite h (fun g1 h => ?_) (fun g1 h => ?_)
  · refine x_icmp_ne (tgt := 15) (pc' := 6) dX12_as_3 (by decide) rfl (fun hn => absurd g1 hn) (fun _ => ?_)
    refine x_lload_n (pc' := 7) dX12_as_6 rfl rfl ?_
    refine x_bipush (pc' := 9) (x := 24) dX12_as_7 (by decide) rfl ?_
    refine xg_bP h (fun w3 e2 h => ?_)
    refine x_callS (pc' := 12) (S := []) (As := [.long v1, .int (24 : Int32)]) (b' := (0, 0, 0)) dX12_as_9 l_X12_114 m_X12_rounded rfl rfl (Nat.le_of_ble_eq_true rfl) (Nat.le_of_ble_eq_true rfl) (Nat.le_of_ble_eq_true rfl) (Nat.le_of_ble_eq_true rfl) (r_X12_rounded _ _ _ _ e2) rfl ?_
    refine x_goto (tgt := 31) dX12_as_12 (by decide) ?_
    obtain rfl := Option.some.inj h
    exact x_lret dX12_as_31 rfl rfl (Nat.le_of_ble_eq_true rfl) rfl
  · refine x_icmp_ne (tgt := 15) (pc' := 6) dX12_as_3 (by decide) rfl (fun _ => ?_) (fun hn => absurd hn g1)
    refine x_iload_n (pc' := 16) dX12_as_15 rfl rfl ?_
    refine x_bipush (pc' := 18) (x := 7) dX12_as_16 (by decide) rfl ?_
    refine xg_ite h (fun g4 h => ?_) (fun g4 h => ?_)
    · refine x_icmp_ne (tgt := 30) (pc' := 21) dX12_as_18 (by decide) rfl (fun hn => absurd g4 hn) (fun _ => ?_)
      refine x_lload_n (pc' := 22) dX12_as_21 rfl rfl ?_
      refine x_bipush (pc' := 24) (x := 53) dX12_as_22 (by decide) rfl ?_
      refine xg_bP h (fun w6 e5 h => ?_)
      refine x_callS (pc' := 27) (S := []) (As := [.long v1, .int (53 : Int32)]) (b' := (0, 0, 0)) dX12_as_24 l_X12_114 m_X12_rounded rfl rfl (Nat.le_of_ble_eq_true rfl) (Nat.le_of_ble_eq_true rfl) (Nat.le_of_ble_eq_true rfl) (Nat.le_of_ble_eq_true rfl) (r_X12_rounded _ _ _ _ e5) rfl ?_
      refine x_goto (tgt := 31) dX12_as_27 (by decide) ?_
      obtain rfl := Option.some.inj h
      exact x_lret dX12_as_31 rfl rfl (Nat.le_of_ble_eq_true rfl) rfl
    · refine x_icmp_ne (tgt := 30) (pc' := 21) dX12_as_18 (by decide) rfl (fun _ => ?_) (fun hn => absurd hn g4)
      refine x_lload_n (pc' := 31) dX12_as_30 rfl rfl ?_
      obtain rfl := Option.some.inj h
      exact x_lret dX12_as_31 rfl rfl (Nat.le_of_ble_eq_true rfl) rfl
def F_X12_taken (v1 : Int32) (v2 : Int32) (hi : Nat → Nat → Int32) (hl : Nat → Nat → Int64) (r : xRr) : Option (Int32 × xSt) := if v2 = (8 : Int32) then some ((0 : Int32), hi, hl, r) else xbP (F_X12_widens v1 v2) (fun w3 => if w3 = 0 then some (((-7) : Int32), hi, hl, r) else xbP (F_X12_as v2 (hl 90 32)) (fun w6 => some ((0 : Int32), (xu hi 90 31 v2), (xu hl 90 32 w6), r)))
set_option maxRecDepth 20000 in
set_option maxHeartbeats 2000000 in
theorem r_X12_taken (v1 : Int32) (v2 : Int32) (hi : Nat → Nat → Int32) (hl : Nat → Nat → Int64) (r : xRr) (o : Int32 × xSt) (h : F_X12_taken v1 v2 hi hl r = some o) : xM yX12_taken cX12_taken 3 1 (2, 0, 0) z [.ref 90, .int v1, .int v2] (xhp hi hl r) (xoI o) := by
  refine x_meth2 (C := RX12) (ini := false) (L := [some (.ref 90), some (.int v1), some (.int v2)]) rfl (by decide) (fun h9 => by cases h9) (by decide) (Nat.le_of_ble_eq_true rfl) rfl ?_
  refine x_iload_n (pc' := 1) dX12_taken_0 rfl rfl ?_
  refine x_bipush (pc' := 3) (x := 8) dX12_taken_1 (by decide) rfl ?_
  refine xg_ite h (fun g1 h => ?_) (fun g1 h => ?_)
  · refine x_icmp_ne (tgt := 8) (pc' := 6) dX12_taken_3 (by decide) rfl (fun hn => absurd g1 hn) (fun _ => ?_)
    refine x_iconst (pc' := 7) (x := 0) dX12_taken_6 (by decide) rfl ?_
    obtain rfl := Option.some.inj h
    exact x_iret dX12_taken_7 rfl rfl (Nat.le_of_ble_eq_true rfl) rfl
  · refine x_icmp_ne (tgt := 8) (pc' := 6) dX12_taken_3 (by decide) rfl (fun _ => ?_) (fun hn => absurd hn g1)
    refine x_iload_n (pc' := 9) dX12_taken_8 rfl rfl ?_
    refine x_iload_n (pc' := 10) dX12_taken_9 rfl rfl ?_
    refine xg_bP h (fun w3 e2 h => ?_)
    refine x_callS (pc' := 13) (S := []) (As := [.int v1, .int v2]) (b' := (0, 0, 0)) dX12_taken_10 l_X12_178 m_X12_widens rfl rfl (Nat.le_of_ble_eq_true rfl) (Nat.le_of_ble_eq_true rfl) (Nat.le_of_ble_eq_true rfl) (Nat.le_of_ble_eq_true rfl) (r_X12_widens _ _ _ _ e2) rfl ?_
    refine xg_ite h (fun g4 h => ?_) (fun g4 h => ?_)
    · refine x_if_ne (tgt := 19) (pc' := 16) dX12_taken_13 (by decide) rfl (fun hn => absurd g4 hn) (fun _ => ?_)
      refine x_bipush (pc' := 18) (x := (-7)) dX12_taken_16 (by decide) rfl ?_
      obtain rfl := Option.some.inj h
      exact x_iret dX12_taken_18 rfl rfl (Nat.le_of_ble_eq_true rfl) rfl
    · refine x_if_ne (tgt := 19) (pc' := 16) dX12_taken_13 (by decide) rfl (fun _ => ?_) (fun hn => absurd hn g4)
      refine x_aload_n (pc' := 20) dX12_taken_19 rfl rfl ?_
      refine x_iload_n (pc' := 21) dX12_taken_20 rfl rfl ?_
      refine x_puti (pc' := 24) dX12_taken_21 f_X12_182 (Or.inl rfl) (by decide) rfl rfl rfl ?_
      refine x_aload_n (pc' := 25) dX12_taken_24 rfl rfl ?_
      refine x_iload_n (pc' := 26) dX12_taken_25 rfl rfl ?_
      refine x_aload_n (pc' := 27) dX12_taken_26 rfl rfl ?_
      refine x_getl (pc' := 30) dX12_taken_27 f_X12_185 (by decide) rfl rfl rfl ?_
      refine xg_bP h (fun w6 e5 h => ?_)
      refine x_callS (pc' := 33) (S := [.ref 90]) (As := [.int v2, .long (hl 90 32)]) (b' := (1, 0, 0)) dX12_taken_30 l_X12_188 m_X12_as rfl rfl (Nat.le_of_ble_eq_true rfl) (Nat.le_of_ble_eq_true rfl) (Nat.le_of_ble_eq_true rfl) (Nat.le_of_ble_eq_true rfl) (r_X12_as _ _ _ _ e5) rfl ?_
      refine x_putl (pc' := 36) dX12_taken_33 f_X12_185 (Or.inl rfl) (by decide) rfl rfl rfl ?_
      refine x_iconst (pc' := 37) (x := 0) dX12_taken_36 (by decide) rfl ?_
      obtain rfl := Option.some.inj h
      exact x_iret dX12_taken_37 rfl rfl (Nat.le_of_ble_eq_true rfl) rfl
def F_X12_fetch_184 (K18 : Int32 → Int32 → Int32 → Int32 → Int32 → Int32 → (Nat → Nat → Int32) → (Nat → Nat → Int64) → xRr → Option (Int32 × xSt)) (v1 : Int32) (v2 : Int32) (v3 : Int32) (v4 : Int32) (v6 : Int32) (s0 : Int32) (hi : Nat → Nat → Int32) (hl : Nat → Nat → Int64) (r : xRr) : Option (Int32 × xSt) := K18 v1 v2 v3 v4 s0 (v6 + (1)) hi hl r
set_option maxRecDepth 20000 in
set_option maxHeartbeats 2000000 in
theorem r_X12_fetch_184 (K18 : Int32 → Int32 → Int32 → Int32 → Int32 → Int32 → (Nat → Nat → Int32) → (Nat → Nat → Int64) → xRr → Option (Int32 × xSt)) (hK18 : ∀ (v1 : Int32) (v2 : Int32) (v3 : Int32) (v4 : Int32) (v5 : Int32) (v6 : Int32) (d7 : Option Value) (d8 : Option Value) (d9 : Option Value) (hi : Nat → Nat → Int32) (hl : Nat → Nat → Int64) (r : xRr) (o : Int32 × xSt), K18 v1 v2 v3 v4 v5 v6 hi hl r = some o → xR (RX12, cX12_fetch, 10, false, 1) (3, 0, 0) z 0 0 18 [some (.ref 90), some (.int v1), some (.int v2), some (.int v3), some (.int v4), some (.int v5), some (.int v6), d7, d8, d9] [] (xhp hi hl r) (xoI o)) (v1 : Int32) (v2 : Int32) (v3 : Int32) (v4 : Int32) (v6 : Int32) (s0 : Int32) (d5 : Option Value) (d7 : Option Value) (d8 : Option Value) (d9 : Option Value) (hi : Nat → Nat → Int32) (hl : Nat → Nat → Int64) (r : xRr) (o : Int32 × xSt) (h : F_X12_fetch_184 K18 v1 v2 v3 v4 v6 s0 hi hl r = some o) : xR (RX12, cX12_fetch, 10, false, 1) (3, 0, 0) z 0 0 184 [some (.ref 90), some (.int v1), some (.int v2), some (.int v3), some (.int v4), d5, some (.int v6), d7, d8, d9] [.int s0] (xhp hi hl r) (xoI o) := by
  refine x_istore (pc' := 186) (L' := [some (.ref 90), some (.int v1), some (.int v2), some (.int v3), some (.int v4), some (.int s0), some (.int v6), d7, d8, d9]) dX12_fetch_184 (Nat.le_of_ble_eq_true rfl) rfl rfl ?_
  refine x_iinc (pc' := 189) (v := (v6 + (1))) (L' := [some (.ref 90), some (.int v1), some (.int v2), some (.int v3), some (.int v4), some (.int s0), some (.int (v6 + (1))), d7, d8, d9]) dX12_fetch_186 rfl rfl (Nat.le_of_ble_eq_true rfl) rfl rfl ?_
  refine x_goto (tgt := 18) dX12_fetch_189 (by decide) ?_
  exact hK18 _ _ _ _ _ _ _ _ _ _ _ _ _ h
def F_X12_fetch_182 (K18 : Int32 → Int32 → Int32 → Int32 → Int32 → Int32 → (Nat → Nat → Int32) → (Nat → Nat → Int64) → xRr → Option (Int32 × xSt)) (v1 : Int32) (v2 : Int32) (v3 : Int32) (v4 : Int32) (v5 : Int32) (v6 : Int32) (hi : Nat → Nat → Int32) (hl : Nat → Nat → Int64) (r : xRr) : Option (Int32 × xSt) := F_X12_fetch_184 K18 v1 v2 v3 v4 v6 v5 hi hl r
set_option maxRecDepth 20000 in
set_option maxHeartbeats 2000000 in
theorem r_X12_fetch_182 (K18 : Int32 → Int32 → Int32 → Int32 → Int32 → Int32 → (Nat → Nat → Int32) → (Nat → Nat → Int64) → xRr → Option (Int32 × xSt)) (hK18 : ∀ (v1 : Int32) (v2 : Int32) (v3 : Int32) (v4 : Int32) (v5 : Int32) (v6 : Int32) (d7 : Option Value) (d8 : Option Value) (d9 : Option Value) (hi : Nat → Nat → Int32) (hl : Nat → Nat → Int64) (r : xRr) (o : Int32 × xSt), K18 v1 v2 v3 v4 v5 v6 hi hl r = some o → xR (RX12, cX12_fetch, 10, false, 1) (3, 0, 0) z 0 0 18 [some (.ref 90), some (.int v1), some (.int v2), some (.int v3), some (.int v4), some (.int v5), some (.int v6), d7, d8, d9] [] (xhp hi hl r) (xoI o)) (v1 : Int32) (v2 : Int32) (v3 : Int32) (v4 : Int32) (v5 : Int32) (v6 : Int32) (d7 : Option Value) (d8 : Option Value) (d9 : Option Value) (hi : Nat → Nat → Int32) (hl : Nat → Nat → Int64) (r : xRr) (o : Int32 × xSt) (h : F_X12_fetch_182 K18 v1 v2 v3 v4 v5 v6 hi hl r = some o) : xR (RX12, cX12_fetch, 10, false, 1) (3, 0, 0) z 0 0 182 [some (.ref 90), some (.int v1), some (.int v2), some (.int v3), some (.int v4), some (.int v5), some (.int v6), d7, d8, d9] [] (xhp hi hl r) (xoI o) := by
  refine x_iload (pc' := 184) dX12_fetch_182 rfl rfl ?_
  exact r_X12_fetch_184 K18 hK18 _ _ _ _ _ _ _ _ _ _ _ _ _ _ h
def F_X12_fetch_140 (K18 : Int32 → Int32 → Int32 → Int32 → Int32 → Int32 → (Nat → Nat → Int32) → (Nat → Nat → Int64) → xRr → Option (Int32 × xSt)) (v1 : Int32) (v2 : Int32) (v3 : Int32) (v4 : Int32) (v6 : Int32) (v8 : Int32) (v9 : Int32) (hi : Nat → Nat → Int32) (hl : Nat → Nat → Int64) (r : xRr) : Option (Int32 × xSt) := xbI (F_X12_taken v9 v8 hi hl r) (fun w2 hi2 hl2 r2 => if w2 = 0 then if v6 = 0 then if v3 = ((-1000) : Int32) then F_X12_fetch_182 K18 v1 v2 v3 v4 w2 v6 hi2 hl2 r2 else xbI (F_X12_isCell v4 v3 hi2 hl2 r2) (fun w7 hi7 hl7 r7 => if w7 = 0 then F_X12_fetch_184 K18 v1 v2 v3 v4 v6 ((-8) : Int32) hi7 hl7 r7 else F_X12_fetch_182 K18 v1 v2 v3 v4 w2 v6 hi7 hl7 r7) else F_X12_fetch_182 K18 v1 v2 v3 v4 w2 v6 hi2 hl2 r2 else F_X12_fetch_182 K18 v1 v2 v3 v4 w2 v6 hi2 hl2 r2)
set_option maxRecDepth 20000 in
set_option maxHeartbeats 2000000 in
theorem r_X12_fetch_140 (K18 : Int32 → Int32 → Int32 → Int32 → Int32 → Int32 → (Nat → Nat → Int32) → (Nat → Nat → Int64) → xRr → Option (Int32 × xSt)) (hK18 : ∀ (v1 : Int32) (v2 : Int32) (v3 : Int32) (v4 : Int32) (v5 : Int32) (v6 : Int32) (d7 : Option Value) (d8 : Option Value) (d9 : Option Value) (hi : Nat → Nat → Int32) (hl : Nat → Nat → Int64) (r : xRr) (o : Int32 × xSt), K18 v1 v2 v3 v4 v5 v6 hi hl r = some o → xR (RX12, cX12_fetch, 10, false, 1) (3, 0, 0) z 0 0 18 [some (.ref 90), some (.int v1), some (.int v2), some (.int v3), some (.int v4), some (.int v5), some (.int v6), d7, d8, d9] [] (xhp hi hl r) (xoI o)) (v1 : Int32) (v2 : Int32) (v3 : Int32) (v4 : Int32) (v6 : Int32) (v8 : Int32) (v9 : Int32) (d5 : Option Value) (d7 : Option Value) (hi : Nat → Nat → Int32) (hl : Nat → Nat → Int64) (r : xRr) (o : Int32 × xSt) (h : F_X12_fetch_140 K18 v1 v2 v3 v4 v6 v8 v9 hi hl r = some o) : xR (RX12, cX12_fetch, 10, false, 1) (3, 0, 0) z 0 0 140 [some (.ref 90), some (.int v1), some (.int v2), some (.int v3), some (.int v4), d5, some (.int v6), d7, some (.int v8), some (.int v9)] [] (xhp hi hl r) (xoI o) := by
  refine x_aload_n (pc' := 141) dX12_fetch_140 rfl rfl ?_
  refine x_iload (pc' := 143) dX12_fetch_141 rfl rfl ?_
  refine x_iload (pc' := 145) dX12_fetch_143 rfl rfl ?_
  refine xg_bI h (fun w2 hi2 hl2 r2 e1 h => ?_)
  refine x_callV (pc' := 148) (S := []) (As := [.int v9, .int v8]) (b' := (2, 0, 0)) dX12_fetch_145 l_X12_206 m_X12_taken rfl rfl (show 90 < 122 by decide) rfl (Nat.le_of_ble_eq_true rfl) (Nat.le_of_ble_eq_true rfl) (Nat.le_of_ble_eq_true rfl) (Nat.le_of_ble_eq_true rfl) (r_X12_taken _ _ _ _ _ _ e1) rfl ?_
  refine x_istore (pc' := 150) (L' := [some (.ref 90), some (.int v1), some (.int v2), some (.int v3), some (.int v4), some (.int w2), some (.int v6), d7, some (.int v8), some (.int v9)]) dX12_fetch_148 (Nat.le_of_ble_eq_true rfl) rfl rfl ?_
  refine x_iload (pc' := 152) dX12_fetch_150 rfl rfl ?_
  refine xg_ite h (fun g3 h => ?_) (fun g3 h => ?_)
  · refine x_if_ne (tgt := 182) (pc' := 155) dX12_fetch_152 (by decide) rfl (fun hn => absurd g3 hn) (fun _ => ?_)
    refine x_iload (pc' := 157) dX12_fetch_155 rfl rfl ?_
    refine xg_ite h (fun g4 h => ?_) (fun g4 h => ?_)
    · refine x_if_ne (tgt := 182) (pc' := 160) dX12_fetch_157 (by decide) rfl (fun hn => absurd g4 hn) (fun _ => ?_)
      refine x_iload_n (pc' := 161) dX12_fetch_160 rfl rfl ?_
      refine x_sipush (pc' := 164) (x := (-1000)) dX12_fetch_161 (by decide) rfl ?_
      refine xg_ite h (fun g5 h => ?_) (fun g5 h => ?_)
      · refine x_icmp_eq (tgt := 182) (pc' := 167) dX12_fetch_164 (by decide) rfl (fun _ => ?_) (fun hn => absurd g5 hn)
        exact r_X12_fetch_182 K18 hK18 _ _ _ _ _ _ _ _ _ _ _ _ _ h
      · refine x_icmp_eq (tgt := 182) (pc' := 167) dX12_fetch_164 (by decide) rfl (fun hn => absurd hn g5) (fun _ => ?_)
        refine x_aload_n (pc' := 168) dX12_fetch_167 rfl rfl ?_
        refine x_iload (pc' := 170) dX12_fetch_168 rfl rfl ?_
        refine x_iload_n (pc' := 171) dX12_fetch_170 rfl rfl ?_
        refine xg_bI h (fun w7 hi7 hl7 r7 e6 h => ?_)
        refine x_callV (pc' := 174) (S := []) (As := [.int v4, .int v3]) (b' := (1, 0, 0)) dX12_fetch_171 l_X12_203 m_X12_isCell rfl rfl (show 90 < 122 by decide) rfl (Nat.le_of_ble_eq_true rfl) (Nat.le_of_ble_eq_true rfl) (Nat.le_of_ble_eq_true rfl) (Nat.le_of_ble_eq_true rfl) (r_X12_isCell _ _ _ _ _ _ e6) rfl ?_
        refine xg_ite h (fun g8 h => ?_) (fun g8 h => ?_)
        · refine x_if_ne (tgt := 182) (pc' := 177) dX12_fetch_174 (by decide) rfl (fun hn => absurd g8 hn) (fun _ => ?_)
          refine x_bipush (pc' := 179) (x := (-8)) dX12_fetch_177 (by decide) rfl ?_
          refine x_goto (tgt := 184) dX12_fetch_179 (by decide) ?_
          exact r_X12_fetch_184 K18 hK18 _ _ _ _ _ _ _ _ _ _ _ _ _ _ h
        · refine x_if_ne (tgt := 182) (pc' := 177) dX12_fetch_174 (by decide) rfl (fun _ => ?_) (fun hn => absurd hn g8)
          exact r_X12_fetch_182 K18 hK18 _ _ _ _ _ _ _ _ _ _ _ _ _ h
    · refine x_if_ne (tgt := 182) (pc' := 160) dX12_fetch_157 (by decide) rfl (fun _ => ?_) (fun hn => absurd hn g4)
      exact r_X12_fetch_182 K18 hK18 _ _ _ _ _ _ _ _ _ _ _ _ _ h
  · refine x_if_ne (tgt := 182) (pc' := 155) dX12_fetch_152 (by decide) rfl (fun _ => ?_) (fun hn => absurd hn g3)
    exact r_X12_fetch_182 K18 hK18 _ _ _ _ _ _ _ _ _ _ _ _ _ h
def F_X12_fetch_91 (K18 : Int32 → Int32 → Int32 → Int32 → Int32 → Int32 → (Nat → Nat → Int32) → (Nat → Nat → Int64) → xRr → Option (Int32 × xSt)) (v1 : Int32) (v2 : Int32) (v3 : Int32) (v4 : Int32) (v6 : Int32) (v8 : Int32) (s0 : Int32) (hi : Nat → Nat → Int32) (hl : Nat → Nat → Int64) (r : xRr) : Option (Int32 × xSt) := if v6 = 0 then xbI (F_X12_isCell v4 v3 hi hl r) (fun w3 hi3 hl3 r3 => if w3 = 0 then F_X12_fetch_140 K18 v1 v2 v3 v4 v6 v8 s0 hi3 hl3 r3 else if xok (((12 : Int32) * v4) + v3) 72 = true then F_X12_fetch_140 K18 v1 v2 v3 v4 v6 v8 s0 (xu hi3 90 31 (hi3 93 (Int32.toNatClampNeg (((12 : Int32) * v4) + v3)))) (xu hl3 90 32 (hl3 94 (Int32.toNatClampNeg (((12 : Int32) * v4) + v3)))) r3 else none) else F_X12_fetch_140 K18 v1 v2 v3 v4 v6 v8 s0 hi hl r
set_option maxRecDepth 20000 in
set_option maxHeartbeats 2000000 in
theorem r_X12_fetch_91 (K18 : Int32 → Int32 → Int32 → Int32 → Int32 → Int32 → (Nat → Nat → Int32) → (Nat → Nat → Int64) → xRr → Option (Int32 × xSt)) (hK18 : ∀ (v1 : Int32) (v2 : Int32) (v3 : Int32) (v4 : Int32) (v5 : Int32) (v6 : Int32) (d7 : Option Value) (d8 : Option Value) (d9 : Option Value) (hi : Nat → Nat → Int32) (hl : Nat → Nat → Int64) (r : xRr) (o : Int32 × xSt), K18 v1 v2 v3 v4 v5 v6 hi hl r = some o → xR (RX12, cX12_fetch, 10, false, 1) (3, 0, 0) z 0 0 18 [some (.ref 90), some (.int v1), some (.int v2), some (.int v3), some (.int v4), some (.int v5), some (.int v6), d7, d8, d9] [] (xhp hi hl r) (xoI o)) (v1 : Int32) (v2 : Int32) (v3 : Int32) (v4 : Int32) (v6 : Int32) (v8 : Int32) (s0 : Int32) (d5 : Option Value) (d7 : Option Value) (d9 : Option Value) (hi : Nat → Nat → Int32) (hl : Nat → Nat → Int64) (r : xRr) (o : Int32 × xSt) (h : F_X12_fetch_91 K18 v1 v2 v3 v4 v6 v8 s0 hi hl r = some o) : xR (RX12, cX12_fetch, 10, false, 1) (3, 0, 0) z 0 0 91 [some (.ref 90), some (.int v1), some (.int v2), some (.int v3), some (.int v4), d5, some (.int v6), d7, some (.int v8), d9] [.int s0] (xhp hi hl r) (xoI o) := by
  refine x_istore (pc' := 93) (L' := [some (.ref 90), some (.int v1), some (.int v2), some (.int v3), some (.int v4), d5, some (.int v6), d7, some (.int v8), some (.int s0)]) dX12_fetch_91 (Nat.le_of_ble_eq_true rfl) rfl rfl ?_
  refine x_iload (pc' := 95) dX12_fetch_93 rfl rfl ?_
  refine xg_ite h (fun g1 h => ?_) (fun g1 h => ?_)
  · refine x_if_ne (tgt := 140) (pc' := 98) dX12_fetch_95 (by decide) rfl (fun hn => absurd g1 hn) (fun _ => ?_)
    refine x_aload_n (pc' := 99) dX12_fetch_98 rfl rfl ?_
    refine x_iload (pc' := 101) dX12_fetch_99 rfl rfl ?_
    refine x_iload_n (pc' := 102) dX12_fetch_101 rfl rfl ?_
    refine xg_bI h (fun w3 hi3 hl3 r3 e2 h => ?_)
    refine x_callV (pc' := 105) (S := []) (As := [.int v4, .int v3]) (b' := (1, 0, 0)) dX12_fetch_102 l_X12_203 m_X12_isCell rfl rfl (show 90 < 122 by decide) rfl (Nat.le_of_ble_eq_true rfl) (Nat.le_of_ble_eq_true rfl) (Nat.le_of_ble_eq_true rfl) (Nat.le_of_ble_eq_true rfl) (r_X12_isCell _ _ _ _ _ _ e2) rfl ?_
    refine xg_ite h (fun g4 h => ?_) (fun g4 h => ?_)
    · refine x_if_eq (tgt := 140) (pc' := 108) dX12_fetch_105 (by decide) rfl (fun _ => ?_) (fun hn => absurd g4 hn)
      exact r_X12_fetch_140 K18 hK18 _ _ _ _ _ _ _ _ _ _ _ _ _ h
    · refine x_if_eq (tgt := 140) (pc' := 108) dX12_fetch_105 (by decide) rfl (fun hn => absurd hn g4) (fun _ => ?_)
      refine x_aload_n (pc' := 109) dX12_fetch_108 rfl rfl ?_
      refine x_aload_n (pc' := 110) dX12_fetch_109 rfl rfl ?_
      refine x_getr (pc' := 113) (t := 93) dX12_fetch_110 f_X12_16 (by decide) rfl rfl rfl rfl ?_
      refine x_bipush (pc' := 115) (x := 12) dX12_fetch_113 (by decide) rfl ?_
      refine x_iload (pc' := 117) dX12_fetch_115 rfl rfl ?_
      refine x_imul (pc' := 118) dX12_fetch_117 rfl ?_
      refine x_iload_n (pc' := 119) dX12_fetch_118 rfl rfl ?_
      refine x_iadd (pc' := 120) dX12_fetch_119 rfl ?_
      refine xg_if h (fun g5 h => ?_)
      refine x_iald (pc' := 121) dX12_fetch_120 (by decide) rfl (xok_in g5) rfl ?_
      refine x_puti (pc' := 124) dX12_fetch_121 f_X12_182 (Or.inl rfl) (by decide) rfl rfl rfl ?_
      refine x_aload_n (pc' := 125) dX12_fetch_124 rfl rfl ?_
      refine x_aload_n (pc' := 126) dX12_fetch_125 rfl rfl ?_
      refine x_getr (pc' := 129) (t := 94) dX12_fetch_126 f_X12_19 (by decide) rfl rfl rfl rfl ?_
      refine x_bipush (pc' := 131) (x := 12) dX12_fetch_129 (by decide) rfl ?_
      refine x_iload (pc' := 133) dX12_fetch_131 rfl rfl ?_
      refine x_imul (pc' := 134) dX12_fetch_133 rfl ?_
      refine x_iload_n (pc' := 135) dX12_fetch_134 rfl rfl ?_
      refine x_iadd (pc' := 136) dX12_fetch_135 rfl ?_
      refine x_lald (pc' := 137) dX12_fetch_136 (by decide) rfl (xok_in g5) rfl ?_
      refine x_putl (pc' := 140) dX12_fetch_137 f_X12_185 (Or.inl rfl) (by decide) rfl rfl rfl ?_
      exact r_X12_fetch_140 K18 hK18 _ _ _ _ _ _ _ _ _ _ _ _ _ h
  · refine x_if_ne (tgt := 140) (pc' := 98) dX12_fetch_95 (by decide) rfl (fun _ => ?_) (fun hn => absurd hn g1)
    exact r_X12_fetch_140 K18 hK18 _ _ _ _ _ _ _ _ _ _ _ _ _ h
def F_X12_fetch_60 (K18 : Int32 → Int32 → Int32 → Int32 → Int32 → Int32 → (Nat → Nat → Int32) → (Nat → Nat → Int64) → xRr → Option (Int32 × xSt)) (v1 : Int32) (v2 : Int32) (v3 : Int32) (v4 : Int32) (v6 : Int32) (s0 : Int32) (hi : Nat → Nat → Int32) (hl : Nat → Nat → Int64) (r : xRr) : Option (Int32 × xSt) := if v6 = 0 then if xok v4 6 = true then F_X12_fetch_91 K18 v1 v2 v3 v4 v6 s0 (hi 91 (Int32.toNatClampNeg v4)) hi hl r else none else xbI (F_X12_under v1 (v6 - (1 : Int32)) hi hl r) (fun w4 hi4 hl4 r4 => if xok w4 8 = true then F_X12_fetch_91 K18 v1 v2 v3 v4 v6 s0 (hi4 99 (Int32.toNatClampNeg w4)) hi4 hl4 r4 else none)
set_option maxRecDepth 20000 in
set_option maxHeartbeats 2000000 in
theorem r_X12_fetch_60 (K18 : Int32 → Int32 → Int32 → Int32 → Int32 → Int32 → (Nat → Nat → Int32) → (Nat → Nat → Int64) → xRr → Option (Int32 × xSt)) (hK18 : ∀ (v1 : Int32) (v2 : Int32) (v3 : Int32) (v4 : Int32) (v5 : Int32) (v6 : Int32) (d7 : Option Value) (d8 : Option Value) (d9 : Option Value) (hi : Nat → Nat → Int32) (hl : Nat → Nat → Int64) (r : xRr) (o : Int32 × xSt), K18 v1 v2 v3 v4 v5 v6 hi hl r = some o → xR (RX12, cX12_fetch, 10, false, 1) (3, 0, 0) z 0 0 18 [some (.ref 90), some (.int v1), some (.int v2), some (.int v3), some (.int v4), some (.int v5), some (.int v6), d7, d8, d9] [] (xhp hi hl r) (xoI o)) (v1 : Int32) (v2 : Int32) (v3 : Int32) (v4 : Int32) (v6 : Int32) (s0 : Int32) (d5 : Option Value) (d7 : Option Value) (d8 : Option Value) (d9 : Option Value) (hi : Nat → Nat → Int32) (hl : Nat → Nat → Int64) (r : xRr) (o : Int32 × xSt) (h : F_X12_fetch_60 K18 v1 v2 v3 v4 v6 s0 hi hl r = some o) : xR (RX12, cX12_fetch, 10, false, 1) (3, 0, 0) z 0 0 60 [some (.ref 90), some (.int v1), some (.int v2), some (.int v3), some (.int v4), d5, some (.int v6), d7, d8, d9] [.int s0] (xhp hi hl r) (xoI o) := by
  refine x_istore (pc' := 62) (L' := [some (.ref 90), some (.int v1), some (.int v2), some (.int v3), some (.int v4), d5, some (.int v6), (xcl d7), some (.int s0), d9]) dX12_fetch_60 (Nat.le_of_ble_eq_true rfl) rfl rfl ?_
  refine x_iload (pc' := 64) dX12_fetch_62 rfl rfl ?_
  refine xg_ite h (fun g1 h => ?_) (fun g1 h => ?_)
  · refine x_if_ne (tgt := 77) (pc' := 67) dX12_fetch_64 (by decide) rfl (fun hn => absurd g1 hn) (fun _ => ?_)
    refine x_aload_n (pc' := 68) dX12_fetch_67 rfl rfl ?_
    refine x_getr (pc' := 71) (t := 91) dX12_fetch_68 f_X12_7 (by decide) rfl rfl rfl rfl ?_
    refine x_iload (pc' := 73) dX12_fetch_71 rfl rfl ?_
    refine xg_if h (fun g2 h => ?_)
    refine x_iald (pc' := 74) dX12_fetch_73 (by decide) rfl (xok_in g2) rfl ?_
    refine x_goto (tgt := 91) dX12_fetch_74 (by decide) ?_
    exact r_X12_fetch_91 K18 hK18 _ _ _ _ _ _ _ _ _ _ _ _ _ _ h
  · refine x_if_ne (tgt := 77) (pc' := 67) dX12_fetch_64 (by decide) rfl (fun _ => ?_) (fun hn => absurd hn g1)
    refine x_aload_n (pc' := 78) dX12_fetch_77 rfl rfl ?_
    refine x_getr (pc' := 81) (t := 99) dX12_fetch_78 f_X12_35 (by decide) rfl rfl rfl rfl ?_
    refine x_aload_n (pc' := 82) dX12_fetch_81 rfl rfl ?_
    refine x_iload_n (pc' := 83) dX12_fetch_82 rfl rfl ?_
    refine x_iload (pc' := 85) dX12_fetch_83 rfl rfl ?_
    refine x_iconst (pc' := 86) (x := 1) dX12_fetch_85 (by decide) rfl ?_
    refine x_isub (pc' := 87) dX12_fetch_86 rfl ?_
    refine xg_bI h (fun w4 hi4 hl4 r4 e3 h => ?_)
    refine x_callV (pc' := 90) (S := [.ref 99]) (As := [.int v1, .int (v6 - (1 : Int32))]) (b' := (0, 0, 0)) dX12_fetch_87 l_X12_199 m_X12_under rfl rfl (show 90 < 122 by decide) rfl (Nat.le_of_ble_eq_true rfl) (Nat.le_of_ble_eq_true rfl) (Nat.le_of_ble_eq_true rfl) (Nat.le_of_ble_eq_true rfl) (r_X12_under _ _ _ _ _ _ e3) rfl ?_
    refine xg_if h (fun g5 h => ?_)
    refine x_iald (pc' := 91) dX12_fetch_90 (by decide) rfl (xok_in g5) rfl ?_
    exact r_X12_fetch_91 K18 hK18 _ _ _ _ _ _ _ _ _ _ _ _ _ _ h
def F_X12_fetch_18 : Nat → Int32 → Int32 → Int32 → Int32 → Int32 → Int32 → (Nat → Nat → Int32) → (Nat → Nat → Int64) → xRr → Option (Int32 × xSt)
  | 0, _, _, _, _, _, _, _, _, _ => none
  | n + 1, v1, v2, v3, v4, v5, v6, hi, hl, r => if xok v1 8 = true then if (hi 100 (Int32.toNatClampNeg v1)) ≤ v6 then some (v5, hi, hl, r) else if v5 = 0 then xbI (F_X12_under v1 v6 hi hl r) (fun w5 hi5 hl5 r5 => if w5 = v1 then F_X12_fetch_60 (F_X12_fetch_18 n) v1 v2 v3 v4 v6 v2 hi5 hl5 r5 else if xok w5 8 = true then F_X12_fetch_60 (F_X12_fetch_18 n) v1 v2 v3 v4 v6 (hi5 99 (Int32.toNatClampNeg w5)) hi5 hl5 r5 else none) else some (v5, hi, hl, r) else none
set_option maxRecDepth 20000 in
set_option maxHeartbeats 2000000 in
theorem r_X12_fetch_18 : ∀ (n : Nat) (v1 : Int32) (v2 : Int32) (v3 : Int32) (v4 : Int32) (v5 : Int32) (v6 : Int32) (d7 : Option Value) (d8 : Option Value) (d9 : Option Value) (hi : Nat → Nat → Int32) (hl : Nat → Nat → Int64) (r : xRr) (o : Int32 × xSt), F_X12_fetch_18 n v1 v2 v3 v4 v5 v6 hi hl r = some o → xR (RX12, cX12_fetch, 10, false, 1) (3, 0, 0) z 0 0 18 [some (.ref 90), some (.int v1), some (.int v2), some (.int v3), some (.int v4), some (.int v5), some (.int v6), d7, d8, d9] [] (xhp hi hl r) (xoI o) := by
  intro n
  induction n with
  | zero =>
    intro v1 v2 v3 v4 v5 v6 d7 d8 d9 hi hl r o h
    have h : none = some o := h
    cases h
  | succ n ih =>
    intro v1 v2 v3 v4 v5 v6 d7 d8 d9 hi hl r o h
    refine x_iload (pc' := 20) dX12_fetch_18 rfl rfl ?_
    refine x_aload_n (pc' := 21) dX12_fetch_20 rfl rfl ?_
    refine x_getr (pc' := 24) (t := 100) dX12_fetch_21 f_X12_38 (by decide) rfl rfl rfl rfl ?_
    refine x_iload_n (pc' := 25) dX12_fetch_24 rfl rfl ?_
    refine xg_if h (fun g1 h => ?_)
    refine x_iald (pc' := 26) dX12_fetch_25 (by decide) rfl (xok_in g1) rfl ?_
    refine xg_ite h (fun g2 h => ?_) (fun g2 h => ?_)
    · refine x_icmp_ge (tgt := 192) (pc' := 29) dX12_fetch_26 (by decide) rfl (fun _ => ?_) (fun hn => absurd g2 hn)
      refine x_iload (pc' := 194) dX12_fetch_192 rfl rfl ?_
      obtain rfl := Option.some.inj h
      exact x_iret dX12_fetch_194 rfl rfl (Nat.le_of_ble_eq_true rfl) rfl
    · refine x_icmp_ge (tgt := 192) (pc' := 29) dX12_fetch_26 (by decide) rfl (fun hn => absurd hn g2) (fun _ => ?_)
      refine x_iload (pc' := 31) dX12_fetch_29 rfl rfl ?_
      refine xg_ite h (fun g3 h => ?_) (fun g3 h => ?_)
      · refine x_if_ne (tgt := 192) (pc' := 34) dX12_fetch_31 (by decide) rfl (fun hn => absurd g3 hn) (fun _ => ?_)
        refine x_aload_n (pc' := 35) dX12_fetch_34 rfl rfl ?_
        refine x_iload_n (pc' := 36) dX12_fetch_35 rfl rfl ?_
        refine x_iload (pc' := 38) dX12_fetch_36 rfl rfl ?_
        refine xg_bI h (fun w5 hi5 hl5 r5 e4 h => ?_)
        refine x_callV (pc' := 41) (S := []) (As := [.int v1, .int v6]) (b' := (0, 0, 0)) dX12_fetch_38 l_X12_199 m_X12_under rfl rfl (show 90 < 122 by decide) rfl (Nat.le_of_ble_eq_true rfl) (Nat.le_of_ble_eq_true rfl) (Nat.le_of_ble_eq_true rfl) (Nat.le_of_ble_eq_true rfl) (r_X12_under _ _ _ _ _ _ e4) rfl ?_
        refine x_istore (pc' := 43) (L' := [some (.ref 90), some (.int v1), some (.int v2), some (.int v3), some (.int v4), some (.int v5), some (.int v6), some (.int w5), d8, d9]) dX12_fetch_41 (Nat.le_of_ble_eq_true rfl) rfl rfl ?_
        refine x_iload (pc' := 45) dX12_fetch_43 rfl rfl ?_
        refine x_iload_n (pc' := 46) dX12_fetch_45 rfl rfl ?_
        refine xg_ite h (fun g6 h => ?_) (fun g6 h => ?_)
        · refine x_icmp_ne (tgt := 53) (pc' := 49) dX12_fetch_46 (by decide) rfl (fun hn => absurd g6 hn) (fun _ => ?_)
          refine x_iload_n (pc' := 50) dX12_fetch_49 rfl rfl ?_
          refine x_goto (tgt := 60) dX12_fetch_50 (by decide) ?_
          exact r_X12_fetch_60 (F_X12_fetch_18 n) ih _ _ _ _ _ _ _ _ _ _ _ _ _ _ h
        · refine x_icmp_ne (tgt := 53) (pc' := 49) dX12_fetch_46 (by decide) rfl (fun _ => ?_) (fun hn => absurd hn g6)
          refine x_aload_n (pc' := 54) dX12_fetch_53 rfl rfl ?_
          refine x_getr (pc' := 57) (t := 99) dX12_fetch_54 f_X12_35 (by decide) rfl rfl rfl rfl ?_
          refine x_iload (pc' := 59) dX12_fetch_57 rfl rfl ?_
          refine xg_if h (fun g7 h => ?_)
          refine x_iald (pc' := 60) dX12_fetch_59 (by decide) rfl (xok_in g7) rfl ?_
          exact r_X12_fetch_60 (F_X12_fetch_18 n) ih _ _ _ _ _ _ _ _ _ _ _ _ _ _ h
      · refine x_if_ne (tgt := 192) (pc' := 34) dX12_fetch_31 (by decide) rfl (fun _ => ?_) (fun hn => absurd hn g3)
        refine x_iload (pc' := 194) dX12_fetch_192 rfl rfl ?_
        obtain rfl := Option.some.inj h
        exact x_iret dX12_fetch_194 rfl rfl (Nat.le_of_ble_eq_true rfl) rfl
def F_X12_fetch (v1 : Int32) (v2 : Int32) (v3 : Int32) (hi : Nat → Nat → Int32) (hl : Nat → Nat → Int64) (r : xRr) : Option (Int32 × xSt) := xbI (F_X12_bankOf v1 hi hl r) (fun w2 hi2 hl2 r2 => xbI (F_X12_refusedBy w2 hi2 hl2 r2) (fun w4 hi4 hl4 r4 => F_X12_fetch_18 1000000 v1 v2 v3 w2 w4 (0 : Int32) hi4 hl4 r4))
set_option maxRecDepth 20000 in
set_option maxHeartbeats 2000000 in
theorem r_X12_fetch (v1 : Int32) (v2 : Int32) (v3 : Int32) (hi : Nat → Nat → Int32) (hl : Nat → Nat → Int64) (r : xRr) (o : Int32 × xSt) (h : F_X12_fetch v1 v2 v3 hi hl r = some o) : xM yX12_fetch cX12_fetch 10 1 (3, 0, 0) z [.ref 90, .int v1, .int v2, .int v3] (xhp hi hl r) (xoI o) := by
  refine x_meth2 (C := RX12) (ini := false) (L := [some (.ref 90), some (.int v1), some (.int v2), some (.int v3), none, none, none, none, none, none]) rfl (by decide) (fun h9 => by cases h9) (by decide) (Nat.le_of_ble_eq_true rfl) rfl ?_
  refine x_aload_n (pc' := 1) dX12_fetch_0 rfl rfl ?_
  refine x_iload_n (pc' := 2) dX12_fetch_1 rfl rfl ?_
  refine xg_bI h (fun w2 hi2 hl2 r2 e1 h => ?_)
  refine x_callV (pc' := 5) (S := []) (As := [.int v1]) (b' := (0, 0, 0)) dX12_fetch_2 l_X12_192 m_X12_bankOf rfl rfl (show 90 < 122 by decide) rfl (Nat.le_of_ble_eq_true rfl) (Nat.le_of_ble_eq_true rfl) (Nat.le_of_ble_eq_true rfl) (Nat.le_of_ble_eq_true rfl) (r_X12_bankOf _ _ _ _ _ e1) rfl ?_
  refine x_istore (pc' := 7) (L' := [some (.ref 90), some (.int v1), some (.int v2), some (.int v3), some (.int w2), none, none, none, none, none]) dX12_fetch_5 (Nat.le_of_ble_eq_true rfl) rfl rfl ?_
  refine x_aload_n (pc' := 8) dX12_fetch_7 rfl rfl ?_
  refine x_iload (pc' := 10) dX12_fetch_8 rfl rfl ?_
  refine xg_bI h (fun w4 hi4 hl4 r4 e3 h => ?_)
  refine x_callV (pc' := 13) (S := []) (As := [.int w2]) (b' := (0, 0, 0)) dX12_fetch_10 l_X12_196 m_X12_refusedBy rfl rfl (show 90 < 122 by decide) rfl (Nat.le_of_ble_eq_true rfl) (Nat.le_of_ble_eq_true rfl) (Nat.le_of_ble_eq_true rfl) (Nat.le_of_ble_eq_true rfl) (r_X12_refusedBy _ _ _ _ _ e3) rfl ?_
  refine x_istore (pc' := 15) (L' := [some (.ref 90), some (.int v1), some (.int v2), some (.int v3), some (.int w2), some (.int w4), none, none, none, none]) dX12_fetch_13 (Nat.le_of_ble_eq_true rfl) rfl rfl ?_
  refine x_iconst (pc' := 16) (x := 0) dX12_fetch_15 (by decide) rfl ?_
  refine x_istore (pc' := 18) (L' := [some (.ref 90), some (.int v1), some (.int v2), some (.int v3), some (.int w2), some (.int w4), some (.int (0 : Int32)), none, none, none]) dX12_fetch_16 (Nat.le_of_ble_eq_true rfl) rfl rfl ?_
  exact r_X12_fetch_18 1000000 _ _ _ _ _ _ _ _ _ _ _ _ _ h
def F_X12_read (v1 : Int32) (v2 : Int32) (hi : Nat → Nat → Int32) (hl : Nat → Nat → Int64) (r : xRr) : Option (Int32 × xSt) := xbI (F_X12_placeIn v1 v2 hi hl r) (fun w2 hi2 hl2 r2 => if w2 = ((-1000) : Int32) then some (((-4) : Int32), hi2, hl2, r2) else if xok v1 8 = true then xbI (F_X12_fetch v1 (hi2 99 (Int32.toNatClampNeg v1)) w2 hi2 hl2 r2) (fun w6 hi6 hl6 r6 => some (w6, hi6, hl6, r6)) else none)
set_option maxRecDepth 20000 in
set_option maxHeartbeats 2000000 in
theorem r_X12_read (v1 : Int32) (v2 : Int32) (hi : Nat → Nat → Int32) (hl : Nat → Nat → Int64) (r : xRr) (o : Int32 × xSt) (h : F_X12_read v1 v2 hi hl r = some o) : xM yX12_read cX12_read 4 1 (4, 0, 0) z [.ref 90, .int v1, .int v2] (xhp hi hl r) (xoI o) := by
  refine x_meth2 (C := RX12) (ini := false) (L := [some (.ref 90), some (.int v1), some (.int v2), none]) rfl (by decide) (fun h9 => by cases h9) (by decide) (Nat.le_of_ble_eq_true rfl) rfl ?_
  refine x_aload_n (pc' := 1) dX12_read_0 rfl rfl ?_
  refine x_iload_n (pc' := 2) dX12_read_1 rfl rfl ?_
  refine x_iload_n (pc' := 3) dX12_read_2 rfl rfl ?_
  refine xg_bI h (fun w2 hi2 hl2 r2 e1 h => ?_)
  refine x_callV (pc' := 6) (S := []) (As := [.int v1, .int v2]) (b' := (1, 0, 0)) dX12_read_3 l_X12_209 m_X12_placeIn rfl rfl (show 90 < 122 by decide) rfl (Nat.le_of_ble_eq_true rfl) (Nat.le_of_ble_eq_true rfl) (Nat.le_of_ble_eq_true rfl) (Nat.le_of_ble_eq_true rfl) (r_X12_placeIn _ _ _ _ _ _ e1) rfl ?_
  refine x_istore_n (pc' := 7) (L' := [some (.ref 90), some (.int v1), some (.int v2), some (.int w2)]) dX12_read_6 (Nat.le_of_ble_eq_true rfl) rfl rfl ?_
  refine x_iload_n (pc' := 8) dX12_read_7 rfl rfl ?_
  refine x_sipush (pc' := 11) (x := (-1000)) dX12_read_8 (by decide) rfl ?_
  refine xg_ite h (fun g3 h => ?_) (fun g3 h => ?_)
  · refine x_icmp_ne (tgt := 19) (pc' := 14) dX12_read_11 (by decide) rfl (fun hn => absurd g3 hn) (fun _ => ?_)
    refine x_bipush (pc' := 16) (x := (-4)) dX12_read_14 (by decide) rfl ?_
    refine x_goto (tgt := 31) dX12_read_16 (by decide) ?_
    obtain rfl := Option.some.inj h
    exact x_iret dX12_read_31 rfl rfl (Nat.le_of_ble_eq_true rfl) rfl
  · refine x_icmp_ne (tgt := 19) (pc' := 14) dX12_read_11 (by decide) rfl (fun _ => ?_) (fun hn => absurd hn g3)
    refine x_aload_n (pc' := 20) dX12_read_19 rfl rfl ?_
    refine x_iload_n (pc' := 21) dX12_read_20 rfl rfl ?_
    refine x_aload_n (pc' := 22) dX12_read_21 rfl rfl ?_
    refine x_getr (pc' := 25) (t := 99) dX12_read_22 f_X12_35 (by decide) rfl rfl rfl rfl ?_
    refine x_iload_n (pc' := 26) dX12_read_25 rfl rfl ?_
    refine xg_if h (fun g4 h => ?_)
    refine x_iald (pc' := 27) dX12_read_26 (by decide) rfl (xok_in g4) rfl ?_
    refine x_iload_n (pc' := 28) dX12_read_27 rfl rfl ?_
    refine xg_bI h (fun w6 hi6 hl6 r6 e5 h => ?_)
    refine x_callV (pc' := 31) (S := []) (As := [.int v1, .int (hi2 99 (Int32.toNatClampNeg v1)), .int w2]) (b' := (3, 0, 0)) dX12_read_28 l_X12_212 m_X12_fetch rfl rfl (show 90 < 122 by decide) rfl (Nat.le_of_ble_eq_true rfl) (Nat.le_of_ble_eq_true rfl) (Nat.le_of_ble_eq_true rfl) (Nat.le_of_ble_eq_true rfl) (r_X12_fetch _ _ _ _ _ _ _ e5) rfl ?_
    obtain rfl := Option.some.inj h
    exact x_iret dX12_read_31 rfl rfl (Nat.le_of_ble_eq_true rfl) rfl
def F_X12_tell_40 (s1 : Int64) (hi : Nat → Nat → Int32) (hl : Nat → Nat → Int64) (r : xRr) : Option (xSt) := some (hi, (xu hl 90 14 s1), r)
set_option maxRecDepth 20000 in
set_option maxHeartbeats 2000000 in
theorem r_X12_tell_40 (s1 : Int64) (hi : Nat → Nat → Int32) (hl : Nat → Nat → Int64) (r : xRr) (o : xSt) (h : F_X12_tell_40 s1 hi hl r = some o) : xR (RX12, cX12_tell, 1, false, 0) (0, 0, 0) z 0 0 40 [some (.ref 90)] [.long s1, .ref 90] (xhp hi hl r) (xoV o) := by
  refine x_putl (pc' := 43) dX12_tell_40 f_X12_165 (Or.inl rfl) (by decide) rfl rfl rfl ?_
  obtain rfl := Option.some.inj h
  exact x_vret dX12_tell_43 rfl rfl (Nat.le_of_ble_eq_true rfl) rfl
def F_X12_tell_19 (s1 : Int32) (hi : Nat → Nat → Int32) (hl : Nat → Nat → Int64) (r : xRr) : Option (xSt) := if ((xu hi 90 13 s1) 90 31) = (10 : Int32) then F_X12_tell_40 (0 : Int64) (xu hi 90 13 s1) hl r else F_X12_tell_40 (hl 90 32) (xu hi 90 13 s1) hl r
set_option maxRecDepth 20000 in
set_option maxHeartbeats 2000000 in
theorem r_X12_tell_19 (s1 : Int32) (hi : Nat → Nat → Int32) (hl : Nat → Nat → Int64) (r : xRr) (o : xSt) (h : F_X12_tell_19 s1 hi hl r = some o) : xR (RX12, cX12_tell, 1, false, 0) (0, 0, 0) z 0 0 19 [some (.ref 90)] [.int s1, .ref 90] (xhp hi hl r) (xoV o) := by
  refine x_puti (pc' := 22) dX12_tell_19 f_X12_41 (Or.inl rfl) (by decide) rfl rfl rfl ?_
  refine x_aload_n (pc' := 23) dX12_tell_22 rfl rfl ?_
  refine x_aload_n (pc' := 24) dX12_tell_23 rfl rfl ?_
  refine x_geti (pc' := 27) dX12_tell_24 f_X12_182 (by decide) rfl rfl rfl ?_
  refine x_bipush (pc' := 29) (x := 10) dX12_tell_27 (by decide) rfl ?_
  refine xg_ite h (fun g1 h => ?_) (fun g1 h => ?_)
  · refine x_icmp_ne (tgt := 36) (pc' := 32) dX12_tell_29 (by decide) rfl (fun hn => absurd g1 hn) (fun _ => ?_)
    refine x_lconst (pc' := 33) (x := 0) dX12_tell_32 (by decide) rfl ?_
    refine x_goto (tgt := 40) dX12_tell_33 (by decide) ?_
    exact r_X12_tell_40 _ _ _ _ _ h
  · refine x_icmp_ne (tgt := 36) (pc' := 32) dX12_tell_29 (by decide) rfl (fun _ => ?_) (fun hn => absurd hn g1)
    refine x_aload_n (pc' := 37) dX12_tell_36 rfl rfl ?_
    refine x_getl (pc' := 40) dX12_tell_37 f_X12_185 (by decide) rfl rfl rfl ?_
    exact r_X12_tell_40 _ _ _ _ _ h
def F_X12_tell (hi : Nat → Nat → Int32) (hl : Nat → Nat → Int64) (r : xRr) : Option (xSt) := if (hi 90 31) = (10 : Int32) then F_X12_tell_19 ((-20) : Int32) hi hl r else F_X12_tell_19 (hi 90 31) hi hl r
set_option maxRecDepth 20000 in
set_option maxHeartbeats 2000000 in
theorem r_X12_tell (hi : Nat → Nat → Int32) (hl : Nat → Nat → Int64) (r : xRr) (o : xSt) (h : F_X12_tell hi hl r = some o) : xM yX12_tell cX12_tell 1 0 (0, 0, 0) z [.ref 90] (xhp hi hl r) (xoV o) := by
  refine x_meth2 (C := RX12) (ini := false) (L := [some (.ref 90)]) rfl (by decide) (fun h9 => by cases h9) (by decide) (Nat.le_of_ble_eq_true rfl) rfl ?_
  refine x_aload_n (pc' := 1) dX12_tell_0 rfl rfl ?_
  refine x_aload_n (pc' := 2) dX12_tell_1 rfl rfl ?_
  refine x_geti (pc' := 5) dX12_tell_2 f_X12_182 (by decide) rfl rfl rfl ?_
  refine x_bipush (pc' := 7) (x := 10) dX12_tell_5 (by decide) rfl ?_
  refine xg_ite h (fun g1 h => ?_) (fun g1 h => ?_)
  · refine x_icmp_ne (tgt := 15) (pc' := 10) dX12_tell_7 (by decide) rfl (fun hn => absurd g1 hn) (fun _ => ?_)
    refine x_bipush (pc' := 12) (x := (-20)) dX12_tell_10 (by decide) rfl ?_
    refine x_goto (tgt := 19) dX12_tell_12 (by decide) ?_
    exact r_X12_tell_19 _ _ _ _ _ h
  · refine x_icmp_ne (tgt := 15) (pc' := 10) dX12_tell_7 (by decide) rfl (fun _ => ?_) (fun hn => absurd hn g1)
    refine x_aload_n (pc' := 16) dX12_tell_15 rfl rfl ?_
    refine x_geti (pc' := 19) dX12_tell_16 f_X12_182 (by decide) rfl rfl rfl ?_
    exact r_X12_tell_19 _ _ _ _ _ h
def F_X12_reads (v1 : Int32) (v2 : Int32) (hi : Nat → Nat → Int32) (hl : Nat → Nat → Int64) (r : xRr) : Option (Int32 × xSt) := xbI (F_X12_isView v1 (xu hi 90 0 (0 : Int32)) hl r) (fun w2 hi2 hl2 r2 => if w2 = 0 then some (((-1) : Int32), hi2, hl2, r2) else xbP (F_X12_in (Int32.toInt64 v2) (0 : Int64) (11 : Int64)) (fun w5 => if w5 = 0 then some (((-1) : Int32), hi2, hl2, r2) else xbI (F_X12_read v1 v2 hi2 hl2 r2) (fun w8 hi8 hl8 r8 => if w8 = 0 then xbV (F_X12_tell hi8 hl8 r8) (fun hi11 hl11 r11 => some (w8, hi11, hl11, r11)) else some (w8, hi8, hl8, r8))))
set_option maxRecDepth 20000 in
set_option maxHeartbeats 2000000 in
theorem r_X12_reads (v1 : Int32) (v2 : Int32) (hi : Nat → Nat → Int32) (hl : Nat → Nat → Int64) (r : xRr) (o : Int32 × xSt) (h : F_X12_reads v1 v2 hi hl r = some o) : xM yX12_reads cX12_reads 4 1 (5, 0, 0) z [.ref 90, .int v1, .int v2] (xhp hi hl r) (xoI o) := by
  refine x_meth2 (C := RX12) (ini := false) (L := [some (.ref 90), some (.int v1), some (.int v2), none]) rfl (by decide) (fun h9 => by cases h9) (by decide) (Nat.le_of_ble_eq_true rfl) rfl ?_
  refine x_aload_n (pc' := 1) dX12_reads_0 rfl rfl ?_
  refine x_iconst (pc' := 2) (x := 0) dX12_reads_1 (by decide) rfl ?_
  refine x_puti (pc' := 5) dX12_reads_2 f_X12_109 (Or.inl rfl) (by decide) rfl rfl rfl ?_
  refine x_aload_n (pc' := 6) dX12_reads_5 rfl rfl ?_
  refine x_iload_n (pc' := 7) dX12_reads_6 rfl rfl ?_
  refine xg_bI h (fun w2 hi2 hl2 r2 e1 h => ?_)
  refine x_callV (pc' := 10) (S := []) (As := [.int v1]) (b' := (1, 0, 0)) dX12_reads_7 l_X12_152 m_X12_isView rfl rfl (show 90 < 122 by decide) rfl (Nat.le_of_ble_eq_true rfl) (Nat.le_of_ble_eq_true rfl) (Nat.le_of_ble_eq_true rfl) (Nat.le_of_ble_eq_true rfl) (r_X12_isView _ _ _ _ _ e1) rfl ?_
  refine xg_ite h (fun g3 h => ?_) (fun g3 h => ?_)
  · refine x_if_eq (tgt := 25) (pc' := 13) dX12_reads_10 (by decide) rfl (fun _ => ?_) (fun hn => absurd g3 hn)
    refine x_iconst (pc' := 26) (x := (-1)) dX12_reads_25 (by decide) rfl ?_
    obtain rfl := Option.some.inj h
    exact x_iret dX12_reads_26 rfl rfl (Nat.le_of_ble_eq_true rfl) rfl
  · refine x_if_eq (tgt := 25) (pc' := 13) dX12_reads_10 (by decide) rfl (fun hn => absurd hn g3) (fun _ => ?_)
    refine x_iload_n (pc' := 14) dX12_reads_13 rfl rfl ?_
    refine x_i2l (pc' := 15) dX12_reads_14 rfl ?_
    refine x_lconst (pc' := 16) (x := 0) dX12_reads_15 (by decide) rfl ?_
    refine x_ldc2 (pc' := 19) dX12_reads_16 k_X12_225 rfl ?_
    refine xg_bP h (fun w5 e4 h => ?_)
    refine x_callS (pc' := 22) (S := []) (As := [.long (Int32.toInt64 v2), .long (0 : Int64), .long (11 : Int64)]) (b' := (0, 0, 0)) dX12_reads_19 l_X12_118 m_X12_in rfl rfl (Nat.le_of_ble_eq_true rfl) (Nat.le_of_ble_eq_true rfl) (Nat.le_of_ble_eq_true rfl) (Nat.le_of_ble_eq_true rfl) (r_X12_in _ _ _ _ _ e4) rfl ?_
    refine xg_ite h (fun g6 h => ?_) (fun g6 h => ?_)
    · refine x_if_ne (tgt := 27) (pc' := 25) dX12_reads_22 (by decide) rfl (fun hn => absurd g6 hn) (fun _ => ?_)
      refine x_iconst (pc' := 26) (x := (-1)) dX12_reads_25 (by decide) rfl ?_
      obtain rfl := Option.some.inj h
      exact x_iret dX12_reads_26 rfl rfl (Nat.le_of_ble_eq_true rfl) rfl
    · refine x_if_ne (tgt := 27) (pc' := 25) dX12_reads_22 (by decide) rfl (fun _ => ?_) (fun hn => absurd hn g6)
      refine x_aload_n (pc' := 28) dX12_reads_27 rfl rfl ?_
      refine x_iload_n (pc' := 29) dX12_reads_28 rfl rfl ?_
      refine x_iload_n (pc' := 30) dX12_reads_29 rfl rfl ?_
      refine xg_bI h (fun w8 hi8 hl8 r8 e7 h => ?_)
      refine x_callV (pc' := 33) (S := []) (As := [.int v1, .int v2]) (b' := (4, 0, 0)) dX12_reads_30 l_X12_227 m_X12_read rfl rfl (show 90 < 122 by decide) rfl (Nat.le_of_ble_eq_true rfl) (Nat.le_of_ble_eq_true rfl) (Nat.le_of_ble_eq_true rfl) (Nat.le_of_ble_eq_true rfl) (r_X12_read _ _ _ _ _ _ e7) rfl ?_
      refine x_istore_n (pc' := 34) (L' := [some (.ref 90), some (.int v1), some (.int v2), some (.int w8)]) dX12_reads_33 (Nat.le_of_ble_eq_true rfl) rfl rfl ?_
      refine x_iload_n (pc' := 35) dX12_reads_34 rfl rfl ?_
      refine xg_ite h (fun g9 h => ?_) (fun g9 h => ?_)
      · refine x_if_ne (tgt := 42) (pc' := 38) dX12_reads_35 (by decide) rfl (fun hn => absurd g9 hn) (fun _ => ?_)
        refine x_aload_n (pc' := 39) dX12_reads_38 rfl rfl ?_
        refine xg_bV h (fun hi11 hl11 r11 e10 h => ?_)
        refine x_callV (pc' := 42) (S := []) (As := []) (b' := (0, 0, 0)) dX12_reads_39 l_X12_230 m_X12_tell rfl rfl (show 90 < 122 by decide) rfl (Nat.le_of_ble_eq_true rfl) (Nat.le_of_ble_eq_true rfl) (Nat.le_of_ble_eq_true rfl) (Nat.le_of_ble_eq_true rfl) (r_X12_tell _ _ _ _ e10) rfl ?_
        refine x_iload_n (pc' := 43) dX12_reads_42 rfl rfl ?_
        obtain rfl := Option.some.inj h
        exact x_iret dX12_reads_43 rfl rfl (Nat.le_of_ble_eq_true rfl) rfl
      · refine x_if_ne (tgt := 42) (pc' := 38) dX12_reads_35 (by decide) rfl (fun _ => ?_) (fun hn => absurd hn g9)
        refine x_iload_n (pc' := 43) dX12_reads_42 rfl rfl ?_
        obtain rfl := Option.some.inj h
        exact x_iret dX12_reads_43 rfl rfl (Nat.le_of_ble_eq_true rfl) rfl
def F_X12_looks_46 (v3 : Int32) (hi : Nat → Nat → Int32) (hl : Nat → Nat → Int64) (r : xRr) : Option (Int32 × xSt) := if v3 = 0 then some (((-8) : Int32), hi, hl, r) else some (v3, hi, hl, r)
set_option maxRecDepth 20000 in
set_option maxHeartbeats 2000000 in
theorem r_X12_looks_46 (v3 : Int32) (d1 : Option Value) (d2 : Option Value) (hi : Nat → Nat → Int32) (hl : Nat → Nat → Int64) (r : xRr) (o : Int32 × xSt) (h : F_X12_looks_46 v3 hi hl r = some o) : xR (RX12, cX12_looks, 4, false, 1) (2, 0, 0) z 0 0 46 [some (.ref 90), d1, d2, some (.int v3)] [] (xhp hi hl r) (xoI o) := by
  refine x_iload_n (pc' := 47) dX12_looks_46 rfl rfl ?_
  refine xg_ite h (fun g1 h => ?_) (fun g1 h => ?_)
  · refine x_if_eq (tgt := 54) (pc' := 50) dX12_looks_47 (by decide) rfl (fun _ => ?_) (fun hn => absurd g1 hn)
    refine x_bipush (pc' := 56) (x := (-8)) dX12_looks_54 (by decide) rfl ?_
    obtain rfl := Option.some.inj h
    exact x_iret dX12_looks_56 rfl rfl (Nat.le_of_ble_eq_true rfl) rfl
  · refine x_if_eq (tgt := 54) (pc' := 50) dX12_looks_47 (by decide) rfl (fun hn => absurd hn g1) (fun _ => ?_)
    refine x_iload_n (pc' := 51) dX12_looks_50 rfl rfl ?_
    refine x_goto (tgt := 56) dX12_looks_51 (by decide) ?_
    obtain rfl := Option.some.inj h
    exact x_iret dX12_looks_56 rfl rfl (Nat.le_of_ble_eq_true rfl) rfl
def F_X12_looks (v1 : Int32) (v2 : Int32) (hi : Nat → Nat → Int32) (hl : Nat → Nat → Int64) (r : xRr) : Option (Int32 × xSt) := xbI (F_X12_isBank v1 (xu hi 90 0 (0 : Int32)) hl r) (fun w2 hi2 hl2 r2 => if w2 = 0 then some (((-1) : Int32), hi2, hl2, r2) else xbP (F_X12_in (Int32.toInt64 v2) (0 : Int64) (11 : Int64)) (fun w5 => if w5 = 0 then some (((-1) : Int32), hi2, hl2, r2) else xbI (F_X12_refusedBy v1 hi2 hl2 r2) (fun w8 hi8 hl8 r8 => if w8 = 0 then xbI (F_X12_isCell v1 v2 hi8 hl8 r8) (fun w11 hi11 hl11 r11 => if w11 = 0 then F_X12_looks_46 w8 hi11 hl11 r11 else if xok (((12 : Int32) * v1) + v2) 72 = true then xbV (F_X12_tell (xu hi11 90 31 (hi11 93 (Int32.toNatClampNeg (((12 : Int32) * v1) + v2)))) (xu hl11 90 32 (hl11 94 (Int32.toNatClampNeg (((12 : Int32) * v1) + v2)))) r11) (fun hi15 hl15 r15 => some ((0 : Int32), hi15, hl15, r15)) else none) else F_X12_looks_46 w8 hi8 hl8 r8)))
set_option maxRecDepth 20000 in
set_option maxHeartbeats 2000000 in
theorem r_X12_looks (v1 : Int32) (v2 : Int32) (hi : Nat → Nat → Int32) (hl : Nat → Nat → Int64) (r : xRr) (o : Int32 × xSt) (h : F_X12_looks v1 v2 hi hl r = some o) : xM yX12_looks cX12_looks 4 1 (2, 0, 0) z [.ref 90, .int v1, .int v2] (xhp hi hl r) (xoI o) := by
  refine x_meth2 (C := RX12) (ini := false) (L := [some (.ref 90), some (.int v1), some (.int v2), none]) rfl (by decide) (fun h9 => by cases h9) (by decide) (Nat.le_of_ble_eq_true rfl) rfl ?_
  refine x_aload_n (pc' := 1) dX12_looks_0 rfl rfl ?_
  refine x_iconst (pc' := 2) (x := 0) dX12_looks_1 (by decide) rfl ?_
  refine x_puti (pc' := 5) dX12_looks_2 f_X12_109 (Or.inl rfl) (by decide) rfl rfl rfl ?_
  refine x_aload_n (pc' := 6) dX12_looks_5 rfl rfl ?_
  refine x_iload_n (pc' := 7) dX12_looks_6 rfl rfl ?_
  refine xg_bI h (fun w2 hi2 hl2 r2 e1 h => ?_)
  refine x_callV (pc' := 10) (S := []) (As := [.int v1]) (b' := (1, 0, 0)) dX12_looks_7 l_X12_148 m_X12_isBank rfl rfl (show 90 < 122 by decide) rfl (Nat.le_of_ble_eq_true rfl) (Nat.le_of_ble_eq_true rfl) (Nat.le_of_ble_eq_true rfl) (Nat.le_of_ble_eq_true rfl) (r_X12_isBank _ _ _ _ _ e1) rfl ?_
  refine xg_ite h (fun g3 h => ?_) (fun g3 h => ?_)
  · refine x_if_eq (tgt := 25) (pc' := 13) dX12_looks_10 (by decide) rfl (fun _ => ?_) (fun hn => absurd g3 hn)
    refine x_iconst (pc' := 26) (x := (-1)) dX12_looks_25 (by decide) rfl ?_
    obtain rfl := Option.some.inj h
    exact x_iret dX12_looks_26 rfl rfl (Nat.le_of_ble_eq_true rfl) rfl
  · refine x_if_eq (tgt := 25) (pc' := 13) dX12_looks_10 (by decide) rfl (fun hn => absurd hn g3) (fun _ => ?_)
    refine x_iload_n (pc' := 14) dX12_looks_13 rfl rfl ?_
    refine x_i2l (pc' := 15) dX12_looks_14 rfl ?_
    refine x_lconst (pc' := 16) (x := 0) dX12_looks_15 (by decide) rfl ?_
    refine x_ldc2 (pc' := 19) dX12_looks_16 k_X12_225 rfl ?_
    refine xg_bP h (fun w5 e4 h => ?_)
    refine x_callS (pc' := 22) (S := []) (As := [.long (Int32.toInt64 v2), .long (0 : Int64), .long (11 : Int64)]) (b' := (0, 0, 0)) dX12_looks_19 l_X12_118 m_X12_in rfl rfl (Nat.le_of_ble_eq_true rfl) (Nat.le_of_ble_eq_true rfl) (Nat.le_of_ble_eq_true rfl) (Nat.le_of_ble_eq_true rfl) (r_X12_in _ _ _ _ _ e4) rfl ?_
    refine xg_ite h (fun g6 h => ?_) (fun g6 h => ?_)
    · refine x_if_ne (tgt := 27) (pc' := 25) dX12_looks_22 (by decide) rfl (fun hn => absurd g6 hn) (fun _ => ?_)
      refine x_iconst (pc' := 26) (x := (-1)) dX12_looks_25 (by decide) rfl ?_
      obtain rfl := Option.some.inj h
      exact x_iret dX12_looks_26 rfl rfl (Nat.le_of_ble_eq_true rfl) rfl
    · refine x_if_ne (tgt := 27) (pc' := 25) dX12_looks_22 (by decide) rfl (fun _ => ?_) (fun hn => absurd hn g6)
      refine x_aload_n (pc' := 28) dX12_looks_27 rfl rfl ?_
      refine x_iload_n (pc' := 29) dX12_looks_28 rfl rfl ?_
      refine xg_bI h (fun w8 hi8 hl8 r8 e7 h => ?_)
      refine x_callV (pc' := 32) (S := []) (As := [.int v1]) (b' := (0, 0, 0)) dX12_looks_29 l_X12_196 m_X12_refusedBy rfl rfl (show 90 < 122 by decide) rfl (Nat.le_of_ble_eq_true rfl) (Nat.le_of_ble_eq_true rfl) (Nat.le_of_ble_eq_true rfl) (Nat.le_of_ble_eq_true rfl) (r_X12_refusedBy _ _ _ _ _ e7) rfl ?_
      refine x_istore_n (pc' := 33) (L' := [some (.ref 90), some (.int v1), some (.int v2), some (.int w8)]) dX12_looks_32 (Nat.le_of_ble_eq_true rfl) rfl rfl ?_
      refine x_iload_n (pc' := 34) dX12_looks_33 rfl rfl ?_
      refine xg_ite h (fun g9 h => ?_) (fun g9 h => ?_)
      · refine x_if_ne (tgt := 46) (pc' := 37) dX12_looks_34 (by decide) rfl (fun hn => absurd g9 hn) (fun _ => ?_)
        refine x_aload_n (pc' := 38) dX12_looks_37 rfl rfl ?_
        refine x_iload_n (pc' := 39) dX12_looks_38 rfl rfl ?_
        refine x_iload_n (pc' := 40) dX12_looks_39 rfl rfl ?_
        refine xg_bI h (fun w11 hi11 hl11 r11 e10 h => ?_)
        refine x_callV (pc' := 43) (S := []) (As := [.int v1, .int v2]) (b' := (1, 0, 0)) dX12_looks_40 l_X12_203 m_X12_isCell rfl rfl (show 90 < 122 by decide) rfl (Nat.le_of_ble_eq_true rfl) (Nat.le_of_ble_eq_true rfl) (Nat.le_of_ble_eq_true rfl) (Nat.le_of_ble_eq_true rfl) (r_X12_isCell _ _ _ _ _ _ e10) rfl ?_
        refine xg_ite h (fun g12 h => ?_) (fun g12 h => ?_)
        · refine x_if_ne (tgt := 57) (pc' := 46) dX12_looks_43 (by decide) rfl (fun hn => absurd g12 hn) (fun _ => ?_)
          exact r_X12_looks_46 _ _ _ _ _ _ _ h
        · refine x_if_ne (tgt := 57) (pc' := 46) dX12_looks_43 (by decide) rfl (fun _ => ?_) (fun hn => absurd hn g12)
          refine x_aload_n (pc' := 58) dX12_looks_57 rfl rfl ?_
          refine x_aload_n (pc' := 59) dX12_looks_58 rfl rfl ?_
          refine x_getr (pc' := 62) (t := 93) dX12_looks_59 f_X12_16 (by decide) rfl rfl rfl rfl ?_
          refine x_bipush (pc' := 64) (x := 12) dX12_looks_62 (by decide) rfl ?_
          refine x_iload_n (pc' := 65) dX12_looks_64 rfl rfl ?_
          refine x_imul (pc' := 66) dX12_looks_65 rfl ?_
          refine x_iload_n (pc' := 67) dX12_looks_66 rfl rfl ?_
          refine x_iadd (pc' := 68) dX12_looks_67 rfl ?_
          refine xg_if h (fun g13 h => ?_)
          refine x_iald (pc' := 69) dX12_looks_68 (by decide) rfl (xok_in g13) rfl ?_
          refine x_puti (pc' := 72) dX12_looks_69 f_X12_182 (Or.inl rfl) (by decide) rfl rfl rfl ?_
          refine x_aload_n (pc' := 73) dX12_looks_72 rfl rfl ?_
          refine x_aload_n (pc' := 74) dX12_looks_73 rfl rfl ?_
          refine x_getr (pc' := 77) (t := 94) dX12_looks_74 f_X12_19 (by decide) rfl rfl rfl rfl ?_
          refine x_bipush (pc' := 79) (x := 12) dX12_looks_77 (by decide) rfl ?_
          refine x_iload_n (pc' := 80) dX12_looks_79 rfl rfl ?_
          refine x_imul (pc' := 81) dX12_looks_80 rfl ?_
          refine x_iload_n (pc' := 82) dX12_looks_81 rfl rfl ?_
          refine x_iadd (pc' := 83) dX12_looks_82 rfl ?_
          refine x_lald (pc' := 84) dX12_looks_83 (by decide) rfl (xok_in g13) rfl ?_
          refine x_putl (pc' := 87) dX12_looks_84 f_X12_185 (Or.inl rfl) (by decide) rfl rfl rfl ?_
          refine x_aload_n (pc' := 88) dX12_looks_87 rfl rfl ?_
          refine xg_bV h (fun hi15 hl15 r15 e14 h => ?_)
          refine x_callV (pc' := 91) (S := []) (As := []) (b' := (0, 0, 0)) dX12_looks_88 l_X12_230 m_X12_tell rfl rfl (show 90 < 122 by decide) rfl (Nat.le_of_ble_eq_true rfl) (Nat.le_of_ble_eq_true rfl) (Nat.le_of_ble_eq_true rfl) (Nat.le_of_ble_eq_true rfl) (r_X12_tell _ _ _ _ e14) rfl ?_
          refine x_iconst (pc' := 92) (x := 0) dX12_looks_91 (by decide) rfl ?_
          obtain rfl := Option.some.inj h
          exact x_iret dX12_looks_92 rfl rfl (Nat.le_of_ble_eq_true rfl) rfl
      · refine x_if_ne (tgt := 46) (pc' := 37) dX12_looks_34 (by decide) rfl (fun _ => ?_) (fun hn => absurd hn g9)
        exact r_X12_looks_46 _ _ _ _ _ _ _ h
def F_X12_number (hi : Nat → Nat → Int32) (hl : Nat → Nat → Int64) (r : xRr) : Option (Int64 × xSt) := some ((hl 90 14), (xu hi 90 0 (0 : Int32)), hl, r)
set_option maxRecDepth 20000 in
set_option maxHeartbeats 2000000 in
theorem r_X12_number (hi : Nat → Nat → Int32) (hl : Nat → Nat → Int64) (r : xRr) (o : Int64 × xSt) (h : F_X12_number hi hl r = some o) : xM yX12_number cX12_number 1 2 (0, 0, 0) z [.ref 90] (xhp hi hl r) (xoL o) := by
  refine x_meth2 (C := RX12) (ini := false) (L := [some (.ref 90)]) rfl (by decide) (fun h9 => by cases h9) (by decide) (Nat.le_of_ble_eq_true rfl) rfl ?_
  refine x_aload_n (pc' := 1) dX12_number_0 rfl rfl ?_
  refine x_iconst (pc' := 2) (x := 0) dX12_number_1 (by decide) rfl ?_
  refine x_puti (pc' := 5) dX12_number_2 f_X12_109 (Or.inl rfl) (by decide) rfl rfl rfl ?_
  refine x_aload_n (pc' := 6) dX12_number_5 rfl rfl ?_
  refine x_getl (pc' := 9) dX12_number_6 f_X12_165 (by decide) rfl rfl rfl ?_
  obtain rfl := Option.some.inj h
  exact x_lret dX12_number_9 rfl rfl (Nat.le_of_ble_eq_true rfl) rfl
def F_X12_kind (hi : Nat → Nat → Int32) (hl : Nat → Nat → Int64) (r : xRr) : Option (Int32 × xSt) := some (((xu hi 90 0 (0 : Int32)) 90 13), (xu hi 90 0 (0 : Int32)), hl, r)
set_option maxRecDepth 20000 in
set_option maxHeartbeats 2000000 in
theorem r_X12_kind (hi : Nat → Nat → Int32) (hl : Nat → Nat → Int64) (r : xRr) (o : Int32 × xSt) (h : F_X12_kind hi hl r = some o) : xM yX12_kind cX12_kind 1 1 (0, 0, 0) z [.ref 90] (xhp hi hl r) (xoI o) := by
  refine x_meth2 (C := RX12) (ini := false) (L := [some (.ref 90)]) rfl (by decide) (fun h9 => by cases h9) (by decide) (Nat.le_of_ble_eq_true rfl) rfl ?_
  refine x_aload_n (pc' := 1) dX12_kind_0 rfl rfl ?_
  refine x_iconst (pc' := 2) (x := 0) dX12_kind_1 (by decide) rfl ?_
  refine x_puti (pc' := 5) dX12_kind_2 f_X12_109 (Or.inl rfl) (by decide) rfl rfl rfl ?_
  refine x_aload_n (pc' := 6) dX12_kind_5 rfl rfl ?_
  refine x_geti (pc' := 9) dX12_kind_6 f_X12_41 (by decide) rfl rfl rfl ?_
  obtain rfl := Option.some.inj h
  exact x_iret dX12_kind_9 rfl rfl (Nat.le_of_ble_eq_true rfl) rfl
def F_X12_isOf (v0 : Int32) (v1 : Int64) : Option (Int32) := if v0 = 0 then xbP (F_X12_in v1 (0 : Int64) (1 : Int64)) (fun w3 => if w3 = 0 ∨ w3 = 1 then some w3 else none) else if v0 = 1 then xbP (F_X12_in v1 (-128 : Int64) (127 : Int64)) (fun w7 => if w7 = 0 ∨ w7 = 1 then some w7 else none) else if v0 = 2 then xbP (F_X12_in v1 (0 : Int64) (65535 : Int64)) (fun w11 => if w11 = 0 ∨ w11 = 1 then some w11 else none) else if v0 = 3 then xbP (F_X12_in v1 (-32768 : Int64) (32767 : Int64)) (fun w15 => if w15 = 0 ∨ w15 = 1 then some w15 else none) else if v0 = 4 then xbP (F_X12_in v1 (-2147483648 : Int64) (2147483647 : Int64)) (fun w19 => if w19 = 0 ∨ w19 = 1 then some w19 else none) else xbP (F_X12_in v1 (-1152921504606846976 : Int64) (1152921504606846976 : Int64)) (fun w22 => if w22 = 0 ∨ w22 = 1 then some w22 else none)
set_option maxRecDepth 20000 in
set_option maxHeartbeats 2000000 in
theorem r_X12_isOf (v0 : Int32) (v1 : Int64) (H : xHp) (o : Int32) (h : F_X12_isOf v0 v1 = some o) : xM yX12_isOf cX12_isOf 3 3 (1, 0, 0) z [.int v0, .long v1] H (some (.int o), H) := by
  refine x_meth2 (C := RX12) (ini := false) (L := [some (.int v0), some (.long v1), none]) rfl (by decide) (fun h9 => by cases h9) (by decide) (Nat.le_of_ble_eq_true rfl) rfl ?_
  refine x_iload_n (pc' := 1) dX12_isOf_0 rfl rfl ?_
  refine xg_ite h (fun g1 h => ?_) (fun g1 h => ?_)
  · refine x_tabIn (tgt := 36) (off := 35) dX12_isOf_1 (by rw [g1]; decide) (by rw [g1]; decide) (by rw [g1]; rfl) (by decide) ?_
    refine x_lload_n (pc' := 37) dX12_isOf_36 rfl rfl ?_
    refine x_lconst (pc' := 38) (x := 0) dX12_isOf_37 (by decide) rfl ?_
    refine x_lconst (pc' := 39) (x := 1) dX12_isOf_38 (by decide) rfl ?_
    refine xg_bP h (fun w3 e2 h => ?_)
    refine x_callS (pc' := 42) (S := []) (As := [.long v1, .long (0 : Int64), .long (1 : Int64)]) (b' := (0, 0, 0)) dX12_isOf_39 l_X12_118 m_X12_in rfl rfl (Nat.le_of_ble_eq_true rfl) (Nat.le_of_ble_eq_true rfl) (Nat.le_of_ble_eq_true rfl) (Nat.le_of_ble_eq_true rfl) (r_X12_in _ _ _ _ _ e2) rfl ?_
    refine xg_or h (fun g4 h => ?_)
    obtain rfl := Option.some.inj h
    exact x_zret dX12_isOf_42 rfl g4 rfl (Nat.le_of_ble_eq_true rfl) rfl
  · refine xg_ite h (fun g5 h => ?_) (fun g5 h => ?_)
    · refine x_tabIn (tgt := 43) (off := 42) dX12_isOf_1 (by rw [g5]; decide) (by rw [g5]; decide) (by rw [g5]; rfl) (by decide) ?_
      refine x_lload_n (pc' := 44) dX12_isOf_43 rfl rfl ?_
      refine x_ldc2 (pc' := 47) dX12_isOf_44 k_X12_122 rfl ?_
      refine x_ldc2 (pc' := 50) dX12_isOf_47 k_X12_124 rfl ?_
      refine xg_bP h (fun w7 e6 h => ?_)
      refine x_callS (pc' := 53) (S := []) (As := [.long v1, .long (-128 : Int64), .long (127 : Int64)]) (b' := (0, 0, 0)) dX12_isOf_50 l_X12_118 m_X12_in rfl rfl (Nat.le_of_ble_eq_true rfl) (Nat.le_of_ble_eq_true rfl) (Nat.le_of_ble_eq_true rfl) (Nat.le_of_ble_eq_true rfl) (r_X12_in _ _ _ _ _ e6) rfl ?_
      refine xg_or h (fun g8 h => ?_)
      obtain rfl := Option.some.inj h
      exact x_zret dX12_isOf_53 rfl g8 rfl (Nat.le_of_ble_eq_true rfl) rfl
    · refine xg_ite h (fun g9 h => ?_) (fun g9 h => ?_)
      · refine x_tabIn (tgt := 54) (off := 53) dX12_isOf_1 (by rw [g9]; decide) (by rw [g9]; decide) (by rw [g9]; rfl) (by decide) ?_
        refine x_lload_n (pc' := 55) dX12_isOf_54 rfl rfl ?_
        refine x_lconst (pc' := 56) (x := 0) dX12_isOf_55 (by decide) rfl ?_
        refine x_ldc2 (pc' := 59) dX12_isOf_56 k_X12_126 rfl ?_
        refine xg_bP h (fun w11 e10 h => ?_)
        refine x_callS (pc' := 62) (S := []) (As := [.long v1, .long (0 : Int64), .long (65535 : Int64)]) (b' := (0, 0, 0)) dX12_isOf_59 l_X12_118 m_X12_in rfl rfl (Nat.le_of_ble_eq_true rfl) (Nat.le_of_ble_eq_true rfl) (Nat.le_of_ble_eq_true rfl) (Nat.le_of_ble_eq_true rfl) (r_X12_in _ _ _ _ _ e10) rfl ?_
        refine xg_or h (fun g12 h => ?_)
        obtain rfl := Option.some.inj h
        exact x_zret dX12_isOf_62 rfl g12 rfl (Nat.le_of_ble_eq_true rfl) rfl
      · refine xg_ite h (fun g13 h => ?_) (fun g13 h => ?_)
        · refine x_tabIn (tgt := 63) (off := 62) dX12_isOf_1 (by rw [g13]; decide) (by rw [g13]; decide) (by rw [g13]; rfl) (by decide) ?_
          refine x_lload_n (pc' := 64) dX12_isOf_63 rfl rfl ?_
          refine x_ldc2 (pc' := 67) dX12_isOf_64 k_X12_128 rfl ?_
          refine x_ldc2 (pc' := 70) dX12_isOf_67 k_X12_130 rfl ?_
          refine xg_bP h (fun w15 e14 h => ?_)
          refine x_callS (pc' := 73) (S := []) (As := [.long v1, .long (-32768 : Int64), .long (32767 : Int64)]) (b' := (0, 0, 0)) dX12_isOf_70 l_X12_118 m_X12_in rfl rfl (Nat.le_of_ble_eq_true rfl) (Nat.le_of_ble_eq_true rfl) (Nat.le_of_ble_eq_true rfl) (Nat.le_of_ble_eq_true rfl) (r_X12_in _ _ _ _ _ e14) rfl ?_
          refine xg_or h (fun g16 h => ?_)
          obtain rfl := Option.some.inj h
          exact x_zret dX12_isOf_73 rfl g16 rfl (Nat.le_of_ble_eq_true rfl) rfl
        · refine xg_ite h (fun g17 h => ?_) (fun g17 h => ?_)
          · refine x_tabIn (tgt := 74) (off := 73) dX12_isOf_1 (by rw [g17]; decide) (by rw [g17]; decide) (by rw [g17]; rfl) (by decide) ?_
            refine x_lload_n (pc' := 75) dX12_isOf_74 rfl rfl ?_
            refine x_ldc2 (pc' := 78) dX12_isOf_75 k_X12_132 rfl ?_
            refine x_ldc2 (pc' := 81) dX12_isOf_78 k_X12_134 rfl ?_
            refine xg_bP h (fun w19 e18 h => ?_)
            refine x_callS (pc' := 84) (S := []) (As := [.long v1, .long (-2147483648 : Int64), .long (2147483647 : Int64)]) (b' := (0, 0, 0)) dX12_isOf_81 l_X12_118 m_X12_in rfl rfl (Nat.le_of_ble_eq_true rfl) (Nat.le_of_ble_eq_true rfl) (Nat.le_of_ble_eq_true rfl) (Nat.le_of_ble_eq_true rfl) (r_X12_in _ _ _ _ _ e18) rfl ?_
            refine xg_or h (fun g20 h => ?_)
            obtain rfl := Option.some.inj h
            exact x_zret dX12_isOf_84 rfl g20 rfl (Nat.le_of_ble_eq_true rfl) rfl
          · refine x_tabOut (tgt := 85) dX12_isOf_1 (by have t0 := lv_neT g1 (a := 0) (by decide); have t1 := lv_neT g5 (a := 1) (by decide); have t2 := lv_neT g9 (a := 2) (by decide); have t3 := lv_neT g13 (a := 3) (by decide); have t4 := lv_neT g17 (a := 4) (by decide); omega) (by decide) ?_
            refine x_lload_n (pc' := 86) dX12_isOf_85 rfl rfl ?_
            refine x_ldc2 (pc' := 89) dX12_isOf_86 k_X12_136 rfl ?_
            refine x_ldc2 (pc' := 92) dX12_isOf_89 k_X12_138 rfl ?_
            refine xg_bP h (fun w22 e21 h => ?_)
            refine x_callS (pc' := 95) (S := []) (As := [.long v1, .long (-1152921504606846976 : Int64), .long (1152921504606846976 : Int64)]) (b' := (0, 0, 0)) dX12_isOf_92 l_X12_118 m_X12_in rfl rfl (Nat.le_of_ble_eq_true rfl) (Nat.le_of_ble_eq_true rfl) (Nat.le_of_ble_eq_true rfl) (Nat.le_of_ble_eq_true rfl) (r_X12_in _ _ _ _ _ e21) rfl ?_
            refine xg_or h (fun g23 h => ?_)
            obtain rfl := Option.some.inj h
            exact x_zret dX12_isOf_95 rfl g23 rfl (Nat.le_of_ble_eq_true rfl) rfl
def F_X12_isThing (v0 : Int32) (v1 : Int32) (v2 : Int64) : Option (Int32) := if v0 = (9 : Int32) then if v1 = (1 : Int32) then xbP (F_X12_in v2 (0 : Int64) (9 : Int64)) (fun w4 => if w4 = 0 then some (0 : Int32) else some (1 : Int32)) else some (0 : Int32) else if v0 = (10 : Int32) then if v1 = (1 : Int32) then some (1 : Int32) else some (0 : Int32) else xbP (F_X12_in (Int32.toInt64 v0) (0 : Int64) (7 : Int64)) (fun w9 => if w9 = 0 then some (0 : Int32) else xbP (F_X12_in (Int32.toInt64 v1) (0 : Int64) (1 : Int64)) (fun w12 => if w12 = 0 then some (0 : Int32) else xbP (F_X12_isOf v0 v2) (fun w15 => if w15 = 0 then some (0 : Int32) else some (1 : Int32))))
set_option maxRecDepth 20000 in
set_option maxHeartbeats 2000000 in
theorem r_X12_isThing (v0 : Int32) (v1 : Int32) (v2 : Int64) (H : xHp) (o : Int32) (h : F_X12_isThing v0 v1 v2 = some o) : xM yX12_isThing cX12_isThing 4 3 (2, 0, 0) z [.int v0, .int v1, .long v2] H (some (.int o), H) := by
  refine x_meth2 (C := RX12) (ini := false) (L := [some (.int v0), some (.int v1), some (.long v2), none]) rfl (by decide) (fun h9 => by cases h9) (by decide) (Nat.le_of_ble_eq_true rfl) rfl ?_
  refine x_iload_n (pc' := 1) dX12_isThing_0 rfl rfl ?_
  refine x_bipush (pc' := 3) (x := 9) dX12_isThing_1 (by decide) rfl ?_
  refine xg_ite h (fun g1 h => ?_) (fun g1 h => ?_)
  · refine x_icmp_ne (tgt := 28) (pc' := 6) dX12_isThing_3 (by decide) rfl (fun hn => absurd g1 hn) (fun _ => ?_)
    refine x_iload_n (pc' := 7) dX12_isThing_6 rfl rfl ?_
    refine x_iconst (pc' := 8) (x := 1) dX12_isThing_7 (by decide) rfl ?_
    refine xg_ite h (fun g2 h => ?_) (fun g2 h => ?_)
    · refine x_icmp_ne (tgt := 26) (pc' := 11) dX12_isThing_8 (by decide) rfl (fun hn => absurd g2 hn) (fun _ => ?_)
      refine x_lload_n (pc' := 12) dX12_isThing_11 rfl rfl ?_
      refine x_lconst (pc' := 13) (x := 0) dX12_isThing_12 (by decide) rfl ?_
      refine x_ldc2 (pc' := 16) dX12_isThing_13 k_X12_233 rfl ?_
      refine xg_bP h (fun w4 e3 h => ?_)
      refine x_callS (pc' := 19) (S := []) (As := [.long v2, .long (0 : Int64), .long (9 : Int64)]) (b' := (0, 0, 0)) dX12_isThing_16 l_X12_118 m_X12_in rfl rfl (Nat.le_of_ble_eq_true rfl) (Nat.le_of_ble_eq_true rfl) (Nat.le_of_ble_eq_true rfl) (Nat.le_of_ble_eq_true rfl) (r_X12_in _ _ _ _ _ e3) rfl ?_
      refine xg_ite h (fun g5 h => ?_) (fun g5 h => ?_)
      · refine x_if_eq (tgt := 26) (pc' := 22) dX12_isThing_19 (by decide) rfl (fun _ => ?_) (fun hn => absurd g5 hn)
        refine x_iconst (pc' := 27) (x := 0) dX12_isThing_26 (by decide) rfl ?_
        obtain rfl := Option.some.inj h
        exact x_zret dX12_isThing_27 rfl (Or.inl rfl) rfl (Nat.le_of_ble_eq_true rfl) rfl
      · refine x_if_eq (tgt := 26) (pc' := 22) dX12_isThing_19 (by decide) rfl (fun hn => absurd hn g5) (fun _ => ?_)
        refine x_iconst (pc' := 23) (x := 1) dX12_isThing_22 (by decide) rfl ?_
        refine x_goto (tgt := 27) dX12_isThing_23 (by decide) ?_
        obtain rfl := Option.some.inj h
        exact x_zret dX12_isThing_27 rfl (Or.inr rfl) rfl (Nat.le_of_ble_eq_true rfl) rfl
    · refine x_icmp_ne (tgt := 26) (pc' := 11) dX12_isThing_8 (by decide) rfl (fun _ => ?_) (fun hn => absurd hn g2)
      refine x_iconst (pc' := 27) (x := 0) dX12_isThing_26 (by decide) rfl ?_
      obtain rfl := Option.some.inj h
      exact x_zret dX12_isThing_27 rfl (Or.inl rfl) rfl (Nat.le_of_ble_eq_true rfl) rfl
  · refine x_icmp_ne (tgt := 28) (pc' := 6) dX12_isThing_3 (by decide) rfl (fun _ => ?_) (fun hn => absurd hn g1)
    refine x_iload_n (pc' := 29) dX12_isThing_28 rfl rfl ?_
    refine x_bipush (pc' := 31) (x := 10) dX12_isThing_29 (by decide) rfl ?_
    refine xg_ite h (fun g6 h => ?_) (fun g6 h => ?_)
    · refine x_icmp_ne (tgt := 45) (pc' := 34) dX12_isThing_31 (by decide) rfl (fun hn => absurd g6 hn) (fun _ => ?_)
      refine x_iload_n (pc' := 35) dX12_isThing_34 rfl rfl ?_
      refine x_iconst (pc' := 36) (x := 1) dX12_isThing_35 (by decide) rfl ?_
      refine xg_ite h (fun g7 h => ?_) (fun g7 h => ?_)
      · refine x_icmp_ne (tgt := 43) (pc' := 39) dX12_isThing_36 (by decide) rfl (fun hn => absurd g7 hn) (fun _ => ?_)
        refine x_iconst (pc' := 40) (x := 1) dX12_isThing_39 (by decide) rfl ?_
        refine x_goto (tgt := 44) dX12_isThing_40 (by decide) ?_
        obtain rfl := Option.some.inj h
        exact x_zret dX12_isThing_44 rfl (Or.inr rfl) rfl (Nat.le_of_ble_eq_true rfl) rfl
      · refine x_icmp_ne (tgt := 43) (pc' := 39) dX12_isThing_36 (by decide) rfl (fun _ => ?_) (fun hn => absurd hn g7)
        refine x_iconst (pc' := 44) (x := 0) dX12_isThing_43 (by decide) rfl ?_
        obtain rfl := Option.some.inj h
        exact x_zret dX12_isThing_44 rfl (Or.inl rfl) rfl (Nat.le_of_ble_eq_true rfl) rfl
    · refine x_icmp_ne (tgt := 45) (pc' := 34) dX12_isThing_31 (by decide) rfl (fun _ => ?_) (fun hn => absurd hn g6)
      refine x_iload_n (pc' := 46) dX12_isThing_45 rfl rfl ?_
      refine x_i2l (pc' := 47) dX12_isThing_46 rfl ?_
      refine x_lconst (pc' := 48) (x := 0) dX12_isThing_47 (by decide) rfl ?_
      refine x_ldc2 (pc' := 51) dX12_isThing_48 k_X12_235 rfl ?_
      refine xg_bP h (fun w9 e8 h => ?_)
      refine x_callS (pc' := 54) (S := []) (As := [.long (Int32.toInt64 v0), .long (0 : Int64), .long (7 : Int64)]) (b' := (0, 0, 0)) dX12_isThing_51 l_X12_118 m_X12_in rfl rfl (Nat.le_of_ble_eq_true rfl) (Nat.le_of_ble_eq_true rfl) (Nat.le_of_ble_eq_true rfl) (Nat.le_of_ble_eq_true rfl) (r_X12_in _ _ _ _ _ e8) rfl ?_
      refine xg_ite h (fun g10 h => ?_) (fun g10 h => ?_)
      · refine x_if_eq (tgt := 79) (pc' := 57) dX12_isThing_54 (by decide) rfl (fun _ => ?_) (fun hn => absurd g10 hn)
        refine x_iconst (pc' := 80) (x := 0) dX12_isThing_79 (by decide) rfl ?_
        obtain rfl := Option.some.inj h
        exact x_zret dX12_isThing_80 rfl (Or.inl rfl) rfl (Nat.le_of_ble_eq_true rfl) rfl
      · refine x_if_eq (tgt := 79) (pc' := 57) dX12_isThing_54 (by decide) rfl (fun hn => absurd hn g10) (fun _ => ?_)
        refine x_iload_n (pc' := 58) dX12_isThing_57 rfl rfl ?_
        refine x_i2l (pc' := 59) dX12_isThing_58 rfl ?_
        refine x_lconst (pc' := 60) (x := 0) dX12_isThing_59 (by decide) rfl ?_
        refine x_lconst (pc' := 61) (x := 1) dX12_isThing_60 (by decide) rfl ?_
        refine xg_bP h (fun w12 e11 h => ?_)
        refine x_callS (pc' := 64) (S := []) (As := [.long (Int32.toInt64 v1), .long (0 : Int64), .long (1 : Int64)]) (b' := (0, 0, 0)) dX12_isThing_61 l_X12_118 m_X12_in rfl rfl (Nat.le_of_ble_eq_true rfl) (Nat.le_of_ble_eq_true rfl) (Nat.le_of_ble_eq_true rfl) (Nat.le_of_ble_eq_true rfl) (r_X12_in _ _ _ _ _ e11) rfl ?_
        refine xg_ite h (fun g13 h => ?_) (fun g13 h => ?_)
        · refine x_if_eq (tgt := 79) (pc' := 67) dX12_isThing_64 (by decide) rfl (fun _ => ?_) (fun hn => absurd g13 hn)
          refine x_iconst (pc' := 80) (x := 0) dX12_isThing_79 (by decide) rfl ?_
          obtain rfl := Option.some.inj h
          exact x_zret dX12_isThing_80 rfl (Or.inl rfl) rfl (Nat.le_of_ble_eq_true rfl) rfl
        · refine x_if_eq (tgt := 79) (pc' := 67) dX12_isThing_64 (by decide) rfl (fun hn => absurd hn g13) (fun _ => ?_)
          refine x_iload_n (pc' := 68) dX12_isThing_67 rfl rfl ?_
          refine x_lload_n (pc' := 69) dX12_isThing_68 rfl rfl ?_
          refine xg_bP h (fun w15 e14 h => ?_)
          refine x_callS (pc' := 72) (S := []) (As := [.int v0, .long v2]) (b' := (1, 0, 0)) dX12_isThing_69 l_X12_237 m_X12_isOf rfl rfl (Nat.le_of_ble_eq_true rfl) (Nat.le_of_ble_eq_true rfl) (Nat.le_of_ble_eq_true rfl) (Nat.le_of_ble_eq_true rfl) (r_X12_isOf _ _ _ _ e14) rfl ?_
          refine xg_ite h (fun g16 h => ?_) (fun g16 h => ?_)
          · refine x_if_eq (tgt := 79) (pc' := 75) dX12_isThing_72 (by decide) rfl (fun _ => ?_) (fun hn => absurd g16 hn)
            refine x_iconst (pc' := 80) (x := 0) dX12_isThing_79 (by decide) rfl ?_
            obtain rfl := Option.some.inj h
            exact x_zret dX12_isThing_80 rfl (Or.inl rfl) rfl (Nat.le_of_ble_eq_true rfl) rfl
          · refine x_if_eq (tgt := 79) (pc' := 75) dX12_isThing_72 (by decide) rfl (fun hn => absurd hn g16) (fun _ => ?_)
            refine x_iconst (pc' := 76) (x := 1) dX12_isThing_75 (by decide) rfl ?_
            refine x_goto (tgt := 80) dX12_isThing_76 (by decide) ?_
            obtain rfl := Option.some.inj h
            exact x_zret dX12_isThing_80 rfl (Or.inr rfl) rfl (Nat.le_of_ble_eq_true rfl) rfl
def F_X12_comes_81 (hi : Nat → Nat → Int32) (hl : Nat → Nat → Int64) (r : xRr) : Option (Int32 × xSt) := some ((0 : Int32), hi, hl, r)
set_option maxRecDepth 20000 in
set_option maxHeartbeats 2000000 in
theorem r_X12_comes_81 (d1 : Option Value) (d2 : Option Value) (d3 : Option Value) (hi : Nat → Nat → Int32) (hl : Nat → Nat → Int64) (r : xRr) (o : Int32 × xSt) (h : F_X12_comes_81 hi hl r = some o) : xR (RX12, cX12_comes, 4, false, 1) (2, 0, 0) z 0 0 81 [some (.ref 90), d1, d2, d3] [] (xhp hi hl r) (xoI o) := by
  refine x_iconst (pc' := 82) (x := 0) dX12_comes_81 (by decide) rfl ?_
  refine x_goto (tgt := 87) dX12_comes_82 (by decide) ?_
  obtain rfl := Option.some.inj h
  exact x_iret dX12_comes_87 rfl rfl (Nat.le_of_ble_eq_true rfl) rfl
def F_X12_comes_61 (v1 : Int32) (s0 : Int32) (hi : Nat → Nat → Int32) (hl : Nat → Nat → Int64) (r : xRr) : Option (Int32 × xSt) := if v1 = (8 : Int32) then if s0 = 0 then if (hi 90 31) = (10 : Int32) then F_X12_comes_81 hi hl r else some (((-7) : Int32), hi, hl, r) else F_X12_comes_81 hi hl r else some (((-7) : Int32), hi, hl, r)
set_option maxRecDepth 20000 in
set_option maxHeartbeats 2000000 in
theorem r_X12_comes_61 (v1 : Int32) (s0 : Int32) (d2 : Option Value) (d3 : Option Value) (hi : Nat → Nat → Int32) (hl : Nat → Nat → Int64) (r : xRr) (o : Int32 × xSt) (h : F_X12_comes_61 v1 s0 hi hl r = some o) : xR (RX12, cX12_comes, 4, false, 1) (2, 0, 0) z 0 0 61 [some (.ref 90), some (.int v1), d2, d3] [.int s0] (xhp hi hl r) (xoI o) := by
  refine x_istore_n (pc' := 62) (L' := [some (.ref 90), some (.int v1), (xcl d2), some (.int s0)]) dX12_comes_61 (Nat.le_of_ble_eq_true rfl) rfl rfl ?_
  refine x_iload_n (pc' := 63) dX12_comes_62 rfl rfl ?_
  refine x_bipush (pc' := 65) (x := 8) dX12_comes_63 (by decide) rfl ?_
  refine xg_ite h (fun g1 h => ?_) (fun g1 h => ?_)
  · refine x_icmp_ne (tgt := 85) (pc' := 68) dX12_comes_65 (by decide) rfl (fun hn => absurd g1 hn) (fun _ => ?_)
    refine x_iload_n (pc' := 69) dX12_comes_68 rfl rfl ?_
    refine xg_ite h (fun g2 h => ?_) (fun g2 h => ?_)
    · refine x_if_ne (tgt := 81) (pc' := 72) dX12_comes_69 (by decide) rfl (fun hn => absurd g2 hn) (fun _ => ?_)
      refine x_aload_n (pc' := 73) dX12_comes_72 rfl rfl ?_
      refine x_geti (pc' := 76) dX12_comes_73 f_X12_182 (by decide) rfl rfl rfl ?_
      refine x_bipush (pc' := 78) (x := 10) dX12_comes_76 (by decide) rfl ?_
      refine xg_ite h (fun g3 h => ?_) (fun g3 h => ?_)
      · refine x_icmp_ne (tgt := 85) (pc' := 81) dX12_comes_78 (by decide) rfl (fun hn => absurd g3 hn) (fun _ => ?_)
        exact r_X12_comes_81 _ _ _ _ _ _ _ h
      · refine x_icmp_ne (tgt := 85) (pc' := 81) dX12_comes_78 (by decide) rfl (fun _ => ?_) (fun hn => absurd hn g3)
        refine x_bipush (pc' := 87) (x := (-7)) dX12_comes_85 (by decide) rfl ?_
        obtain rfl := Option.some.inj h
        exact x_iret dX12_comes_87 rfl rfl (Nat.le_of_ble_eq_true rfl) rfl
    · refine x_if_ne (tgt := 81) (pc' := 72) dX12_comes_69 (by decide) rfl (fun _ => ?_) (fun hn => absurd hn g2)
      exact r_X12_comes_81 _ _ _ _ _ _ _ h
  · refine x_icmp_ne (tgt := 85) (pc' := 68) dX12_comes_65 (by decide) rfl (fun _ => ?_) (fun hn => absurd hn g1)
    refine x_bipush (pc' := 87) (x := (-7)) dX12_comes_85 (by decide) rfl ?_
    obtain rfl := Option.some.inj h
    exact x_iret dX12_comes_87 rfl rfl (Nat.le_of_ble_eq_true rfl) rfl
def F_X12_comes_120 (v2 : Int32) (s0 : Int32) (hi : Nat → Nat → Int32) (hl : Nat → Nat → Int64) (r : xRr) : Option (Int32 × xSt) := xbP (F_X12_widens s0 v2) (fun w2 => if w2 = 0 then some (((-7) : Int32), hi, hl, r) else xbP (F_X12_as v2 (hl 90 32)) (fun w5 => some ((0 : Int32), (xu hi 90 31 v2), (xu hl 90 32 w5), r)))
set_option maxRecDepth 20000 in
set_option maxHeartbeats 2000000 in
theorem r_X12_comes_120 (v2 : Int32) (s0 : Int32) (d1 : Option Value) (d3 : Option Value) (hi : Nat → Nat → Int32) (hl : Nat → Nat → Int64) (r : xRr) (o : Int32 × xSt) (h : F_X12_comes_120 v2 s0 hi hl r = some o) : xR (RX12, cX12_comes, 4, false, 1) (2, 0, 0) z 0 0 120 [some (.ref 90), d1, some (.int v2), d3] [.int s0] (xhp hi hl r) (xoI o) := by
  refine x_iload_n (pc' := 121) dX12_comes_120 rfl rfl ?_
  refine xg_bP h (fun w2 e1 h => ?_)
  refine x_callS (pc' := 124) (S := []) (As := [.int s0, .int v2]) (b' := (0, 0, 0)) dX12_comes_121 l_X12_178 m_X12_widens rfl rfl (Nat.le_of_ble_eq_true rfl) (Nat.le_of_ble_eq_true rfl) (Nat.le_of_ble_eq_true rfl) (Nat.le_of_ble_eq_true rfl) (r_X12_widens _ _ _ _ e1) rfl ?_
  refine xg_ite h (fun g3 h => ?_) (fun g3 h => ?_)
  · refine x_if_ne (tgt := 130) (pc' := 127) dX12_comes_124 (by decide) rfl (fun hn => absurd g3 hn) (fun _ => ?_)
    refine x_bipush (pc' := 129) (x := (-7)) dX12_comes_127 (by decide) rfl ?_
    obtain rfl := Option.some.inj h
    exact x_iret dX12_comes_129 rfl rfl (Nat.le_of_ble_eq_true rfl) rfl
  · refine x_if_ne (tgt := 130) (pc' := 127) dX12_comes_124 (by decide) rfl (fun _ => ?_) (fun hn => absurd hn g3)
    refine x_aload_n (pc' := 131) dX12_comes_130 rfl rfl ?_
    refine x_iload_n (pc' := 132) dX12_comes_131 rfl rfl ?_
    refine x_puti (pc' := 135) dX12_comes_132 f_X12_182 (Or.inl rfl) (by decide) rfl rfl rfl ?_
    refine x_aload_n (pc' := 136) dX12_comes_135 rfl rfl ?_
    refine x_iload_n (pc' := 137) dX12_comes_136 rfl rfl ?_
    refine x_aload_n (pc' := 138) dX12_comes_137 rfl rfl ?_
    refine x_getl (pc' := 141) dX12_comes_138 f_X12_185 (by decide) rfl rfl rfl ?_
    refine xg_bP h (fun w5 e4 h => ?_)
    refine x_callS (pc' := 144) (S := [.ref 90]) (As := [.int v2, .long (hl 90 32)]) (b' := (1, 0, 0)) dX12_comes_141 l_X12_188 m_X12_as rfl rfl (Nat.le_of_ble_eq_true rfl) (Nat.le_of_ble_eq_true rfl) (Nat.le_of_ble_eq_true rfl) (Nat.le_of_ble_eq_true rfl) (r_X12_as _ _ _ _ e4) rfl ?_
    refine x_putl (pc' := 147) dX12_comes_144 f_X12_185 (Or.inl rfl) (by decide) rfl rfl rfl ?_
    refine x_iconst (pc' := 148) (x := 0) dX12_comes_147 (by decide) rfl ?_
    obtain rfl := Option.some.inj h
    exact x_iret dX12_comes_148 rfl rfl (Nat.le_of_ble_eq_true rfl) rfl
def F_X12_comes_106 (v1 : Int32) (v2 : Int32) (hi : Nat → Nat → Int32) (hl : Nat → Nat → Int64) (r : xRr) : Option (Int32 × xSt) := if v1 = (8 : Int32) then F_X12_comes_120 v2 (hi 90 31) hi hl r else F_X12_comes_120 v2 v1 hi hl r
set_option maxRecDepth 20000 in
set_option maxHeartbeats 2000000 in
theorem r_X12_comes_106 (v1 : Int32) (v2 : Int32) (d3 : Option Value) (hi : Nat → Nat → Int32) (hl : Nat → Nat → Int64) (r : xRr) (o : Int32 × xSt) (h : F_X12_comes_106 v1 v2 hi hl r = some o) : xR (RX12, cX12_comes, 4, false, 1) (2, 0, 0) z 0 0 106 [some (.ref 90), some (.int v1), some (.int v2), d3] [] (xhp hi hl r) (xoI o) := by
  refine x_iload_n (pc' := 107) dX12_comes_106 rfl rfl ?_
  refine x_bipush (pc' := 109) (x := 8) dX12_comes_107 (by decide) rfl ?_
  refine xg_ite h (fun g1 h => ?_) (fun g1 h => ?_)
  · refine x_icmp_ne (tgt := 119) (pc' := 112) dX12_comes_109 (by decide) rfl (fun hn => absurd g1 hn) (fun _ => ?_)
    refine x_aload_n (pc' := 113) dX12_comes_112 rfl rfl ?_
    refine x_geti (pc' := 116) dX12_comes_113 f_X12_182 (by decide) rfl rfl rfl ?_
    refine x_goto (tgt := 120) dX12_comes_116 (by decide) ?_
    exact r_X12_comes_120 _ _ _ _ _ _ _ _ h
  · refine x_icmp_ne (tgt := 119) (pc' := 112) dX12_comes_109 (by decide) rfl (fun _ => ?_) (fun hn => absurd hn g1)
    refine x_iload_n (pc' := 120) dX12_comes_119 rfl rfl ?_
    exact r_X12_comes_120 _ _ _ _ _ _ _ _ h
def F_X12_comes (v1 : Int32) (v2 : Int32) (hi : Nat → Nat → Int32) (hl : Nat → Nat → Int64) (r : xRr) : Option (Int32 × xSt) := if v2 = (8 : Int32) then if v1 = (8 : Int32) then some ((0 : Int32), hi, hl, r) else some (((-7) : Int32), hi, hl, r) else if v2 ≤ (8 : Int32) then if v1 = (8 : Int32) then if (hi 90 31) = (10 : Int32) then some (((-9) : Int32), hi, hl, r) else F_X12_comes_106 v1 v2 hi hl r else F_X12_comes_106 v1 v2 hi hl r else if v2 = (9 : Int32) then if (hi 90 31) = (9 : Int32) then F_X12_comes_61 v1 (1 : Int32) hi hl r else F_X12_comes_61 v1 (0 : Int32) hi hl r else if (hi 90 31) = (4 : Int32) then F_X12_comes_61 v1 (1 : Int32) hi hl r else F_X12_comes_61 v1 (0 : Int32) hi hl r
set_option maxRecDepth 20000 in
set_option maxHeartbeats 2000000 in
theorem r_X12_comes (v1 : Int32) (v2 : Int32) (hi : Nat → Nat → Int32) (hl : Nat → Nat → Int64) (r : xRr) (o : Int32 × xSt) (h : F_X12_comes v1 v2 hi hl r = some o) : xM yX12_comes cX12_comes 4 1 (2, 0, 0) z [.ref 90, .int v1, .int v2] (xhp hi hl r) (xoI o) := by
  refine x_meth2 (C := RX12) (ini := false) (L := [some (.ref 90), some (.int v1), some (.int v2), none]) rfl (by decide) (fun h9 => by cases h9) (by decide) (Nat.le_of_ble_eq_true rfl) rfl ?_
  refine x_iload_n (pc' := 1) dX12_comes_0 rfl rfl ?_
  refine x_bipush (pc' := 3) (x := 8) dX12_comes_1 (by decide) rfl ?_
  refine xg_ite h (fun g1 h => ?_) (fun g1 h => ?_)
  · refine x_icmp_ne (tgt := 19) (pc' := 6) dX12_comes_3 (by decide) rfl (fun hn => absurd g1 hn) (fun _ => ?_)
    refine x_iload_n (pc' := 7) dX12_comes_6 rfl rfl ?_
    refine x_bipush (pc' := 9) (x := 8) dX12_comes_7 (by decide) rfl ?_
    refine xg_ite h (fun g2 h => ?_) (fun g2 h => ?_)
    · refine x_icmp_ne (tgt := 16) (pc' := 12) dX12_comes_9 (by decide) rfl (fun hn => absurd g2 hn) (fun _ => ?_)
      refine x_iconst (pc' := 13) (x := 0) dX12_comes_12 (by decide) rfl ?_
      refine x_goto (tgt := 18) dX12_comes_13 (by decide) ?_
      obtain rfl := Option.some.inj h
      exact x_iret dX12_comes_18 rfl rfl (Nat.le_of_ble_eq_true rfl) rfl
    · refine x_icmp_ne (tgt := 16) (pc' := 12) dX12_comes_9 (by decide) rfl (fun _ => ?_) (fun hn => absurd hn g2)
      refine x_bipush (pc' := 18) (x := (-7)) dX12_comes_16 (by decide) rfl ?_
      obtain rfl := Option.some.inj h
      exact x_iret dX12_comes_18 rfl rfl (Nat.le_of_ble_eq_true rfl) rfl
  · refine x_icmp_ne (tgt := 19) (pc' := 6) dX12_comes_3 (by decide) rfl (fun _ => ?_) (fun hn => absurd hn g1)
    refine x_iload_n (pc' := 20) dX12_comes_19 rfl rfl ?_
    refine x_bipush (pc' := 22) (x := 8) dX12_comes_20 (by decide) rfl ?_
    refine xg_ite h (fun g3 h => ?_) (fun g3 h => ?_)
    · refine x_icmp_le (tgt := 88) (pc' := 25) dX12_comes_22 (by decide) rfl (fun _ => ?_) (fun hn => absurd g3 hn)
      refine x_iload_n (pc' := 89) dX12_comes_88 rfl rfl ?_
      refine x_bipush (pc' := 91) (x := 8) dX12_comes_89 (by decide) rfl ?_
      refine xg_ite h (fun g4 h => ?_) (fun g4 h => ?_)
      · refine x_icmp_ne (tgt := 106) (pc' := 94) dX12_comes_91 (by decide) rfl (fun hn => absurd g4 hn) (fun _ => ?_)
        refine x_aload_n (pc' := 95) dX12_comes_94 rfl rfl ?_
        refine x_geti (pc' := 98) dX12_comes_95 f_X12_182 (by decide) rfl rfl rfl ?_
        refine x_bipush (pc' := 100) (x := 10) dX12_comes_98 (by decide) rfl ?_
        refine xg_ite h (fun g5 h => ?_) (fun g5 h => ?_)
        · refine x_icmp_ne (tgt := 106) (pc' := 103) dX12_comes_100 (by decide) rfl (fun hn => absurd g5 hn) (fun _ => ?_)
          refine x_bipush (pc' := 105) (x := (-9)) dX12_comes_103 (by decide) rfl ?_
          obtain rfl := Option.some.inj h
          exact x_iret dX12_comes_105 rfl rfl (Nat.le_of_ble_eq_true rfl) rfl
        · refine x_icmp_ne (tgt := 106) (pc' := 103) dX12_comes_100 (by decide) rfl (fun _ => ?_) (fun hn => absurd hn g5)
          exact r_X12_comes_106 _ _ _ _ _ _ _ h
      · refine x_icmp_ne (tgt := 106) (pc' := 94) dX12_comes_91 (by decide) rfl (fun _ => ?_) (fun hn => absurd hn g4)
        exact r_X12_comes_106 _ _ _ _ _ _ _ h
    · refine x_icmp_le (tgt := 88) (pc' := 25) dX12_comes_22 (by decide) rfl (fun hn => absurd hn g3) (fun _ => ?_)
      refine x_iload_n (pc' := 26) dX12_comes_25 rfl rfl ?_
      refine x_bipush (pc' := 28) (x := 9) dX12_comes_26 (by decide) rfl ?_
      refine xg_ite h (fun g6 h => ?_) (fun g6 h => ?_)
      · refine x_icmp_ne (tgt := 48) (pc' := 31) dX12_comes_28 (by decide) rfl (fun hn => absurd g6 hn) (fun _ => ?_)
        refine x_aload_n (pc' := 32) dX12_comes_31 rfl rfl ?_
        refine x_geti (pc' := 35) dX12_comes_32 f_X12_182 (by decide) rfl rfl rfl ?_
        refine x_bipush (pc' := 37) (x := 9) dX12_comes_35 (by decide) rfl ?_
        refine xg_ite h (fun g7 h => ?_) (fun g7 h => ?_)
        · refine x_icmp_ne (tgt := 44) (pc' := 40) dX12_comes_37 (by decide) rfl (fun hn => absurd g7 hn) (fun _ => ?_)
          refine x_iconst (pc' := 41) (x := 1) dX12_comes_40 (by decide) rfl ?_
          refine x_goto (tgt := 61) dX12_comes_41 (by decide) ?_
          exact r_X12_comes_61 _ _ _ _ _ _ _ _ h
        · refine x_icmp_ne (tgt := 44) (pc' := 40) dX12_comes_37 (by decide) rfl (fun _ => ?_) (fun hn => absurd hn g7)
          refine x_iconst (pc' := 45) (x := 0) dX12_comes_44 (by decide) rfl ?_
          refine x_goto (tgt := 61) dX12_comes_45 (by decide) ?_
          exact r_X12_comes_61 _ _ _ _ _ _ _ _ h
      · refine x_icmp_ne (tgt := 48) (pc' := 31) dX12_comes_28 (by decide) rfl (fun _ => ?_) (fun hn => absurd hn g6)
        refine x_aload_n (pc' := 49) dX12_comes_48 rfl rfl ?_
        refine x_geti (pc' := 52) dX12_comes_49 f_X12_182 (by decide) rfl rfl rfl ?_
        refine x_iconst (pc' := 53) (x := 4) dX12_comes_52 (by decide) rfl ?_
        refine xg_ite h (fun g8 h => ?_) (fun g8 h => ?_)
        · refine x_icmp_ne (tgt := 60) (pc' := 56) dX12_comes_53 (by decide) rfl (fun hn => absurd g8 hn) (fun _ => ?_)
          refine x_iconst (pc' := 57) (x := 1) dX12_comes_56 (by decide) rfl ?_
          refine x_goto (tgt := 61) dX12_comes_57 (by decide) ?_
          exact r_X12_comes_61 _ _ _ _ _ _ _ _ h
        · refine x_icmp_ne (tgt := 60) (pc' := 56) dX12_comes_53 (by decide) rfl (fun _ => ?_) (fun hn => absurd hn g8)
          refine x_iconst (pc' := 61) (x := 0) dX12_comes_60 (by decide) rfl ?_
          exact r_X12_comes_61 _ _ _ _ _ _ _ _ h
def F_X12_sink_103 (v3 : Int32) (v4 : Int32) (s0 : Int32) (hi : Nat → Nat → Int32) (hl : Nat → Nat → Int64) (r : xRr) : Option (Int32 × xSt) := if s0 = 0 then if v3 = ((-1000) : Int32) then some (s0, hi, hl, r) else xbI (F_X12_isCell v4 v3 hi hl r) (fun w4 hi4 hl4 r4 => if w4 = 0 then some (((-8) : Int32), hi4, hl4, r4) else some (s0, hi4, hl4, r4)) else some (s0, hi, hl, r)
set_option maxRecDepth 20000 in
set_option maxHeartbeats 2000000 in
theorem r_X12_sink_103 (v3 : Int32) (v4 : Int32) (s0 : Int32) (d1 : Option Value) (d2 : Option Value) (d5 : Option Value) (d6 : Option Value) (d7 : Option Value) (d8 : Option Value) (hi : Nat → Nat → Int32) (hl : Nat → Nat → Int64) (r : xRr) (o : Int32 × xSt) (h : F_X12_sink_103 v3 v4 s0 hi hl r = some o) : xR (RX12, cX12_sink, 9, false, 1) (3, 0, 0) z 0 0 103 [some (.ref 90), d1, d2, some (.int v3), some (.int v4), d5, d6, d7, d8] [.int s0] (xhp hi hl r) (xoI o) := by
  refine x_istore (pc' := 105) (L' := [some (.ref 90), d1, d2, some (.int v3), some (.int v4), (xcl d5), some (.int s0), d7, d8]) dX12_sink_103 (Nat.le_of_ble_eq_true rfl) rfl rfl ?_
  refine x_iload (pc' := 107) dX12_sink_105 rfl rfl ?_
  refine xg_ite h (fun g1 h => ?_) (fun g1 h => ?_)
  · refine x_if_ne (tgt := 132) (pc' := 110) dX12_sink_107 (by decide) rfl (fun hn => absurd g1 hn) (fun _ => ?_)
    refine x_iload_n (pc' := 111) dX12_sink_110 rfl rfl ?_
    refine x_sipush (pc' := 114) (x := (-1000)) dX12_sink_111 (by decide) rfl ?_
    refine xg_ite h (fun g2 h => ?_) (fun g2 h => ?_)
    · refine x_icmp_eq (tgt := 132) (pc' := 117) dX12_sink_114 (by decide) rfl (fun _ => ?_) (fun hn => absurd g2 hn)
      refine x_iload (pc' := 134) dX12_sink_132 rfl rfl ?_
      obtain rfl := Option.some.inj h
      exact x_iret dX12_sink_134 rfl rfl (Nat.le_of_ble_eq_true rfl) rfl
    · refine x_icmp_eq (tgt := 132) (pc' := 117) dX12_sink_114 (by decide) rfl (fun hn => absurd hn g2) (fun _ => ?_)
      refine x_aload_n (pc' := 118) dX12_sink_117 rfl rfl ?_
      refine x_iload (pc' := 120) dX12_sink_118 rfl rfl ?_
      refine x_iload_n (pc' := 121) dX12_sink_120 rfl rfl ?_
      refine xg_bI h (fun w4 hi4 hl4 r4 e3 h => ?_)
      refine x_callV (pc' := 124) (S := []) (As := [.int v4, .int v3]) (b' := (1, 0, 0)) dX12_sink_121 l_X12_203 m_X12_isCell rfl rfl (show 90 < 122 by decide) rfl (Nat.le_of_ble_eq_true rfl) (Nat.le_of_ble_eq_true rfl) (Nat.le_of_ble_eq_true rfl) (Nat.le_of_ble_eq_true rfl) (r_X12_isCell _ _ _ _ _ _ e3) rfl ?_
      refine xg_ite h (fun g5 h => ?_) (fun g5 h => ?_)
      · refine x_if_ne (tgt := 132) (pc' := 127) dX12_sink_124 (by decide) rfl (fun hn => absurd g5 hn) (fun _ => ?_)
        refine x_bipush (pc' := 129) (x := (-8)) dX12_sink_127 (by decide) rfl ?_
        refine x_goto (tgt := 134) dX12_sink_129 (by decide) ?_
        obtain rfl := Option.some.inj h
        exact x_iret dX12_sink_134 rfl rfl (Nat.le_of_ble_eq_true rfl) rfl
      · refine x_if_ne (tgt := 132) (pc' := 127) dX12_sink_124 (by decide) rfl (fun _ => ?_) (fun hn => absurd hn g5)
        refine x_iload (pc' := 134) dX12_sink_132 rfl rfl ?_
        obtain rfl := Option.some.inj h
        exact x_iret dX12_sink_134 rfl rfl (Nat.le_of_ble_eq_true rfl) rfl
  · refine x_if_ne (tgt := 132) (pc' := 110) dX12_sink_107 (by decide) rfl (fun _ => ?_) (fun hn => absurd hn g1)
    refine x_iload (pc' := 134) dX12_sink_132 rfl rfl ?_
    obtain rfl := Option.some.inj h
    exact x_iret dX12_sink_134 rfl rfl (Nat.le_of_ble_eq_true rfl) rfl
def F_X12_sink_20 : Nat → Int32 → Int32 → Int32 → Int32 → Int32 → (Nat → Nat → Int32) → (Nat → Nat → Int64) → xRr → Option (Int32 × xSt)
  | 0, _, _, _, _, _, _, _, _ => none
  | n + 1, v1, v3, v4, v5, v6, hi, hl, r => if v6 < 0 then xbI (F_X12_refusedBy v4 hi hl r) (fun w3 hi3 hl3 r3 => if w3 = 0 then if xok v4 6 = true then xbI (F_X12_comes v5 (hi3 91 (Int32.toNatClampNeg v4)) hi3 hl3 r3) (fun w7 hi7 hl7 r7 => F_X12_sink_103 v3 v4 w7 hi7 hl7 r7) else none else F_X12_sink_103 v3 v4 w3 hi3 hl3 r3) else xbI (F_X12_under v1 v6 hi hl r) (fun w9 hi9 hl9 r9 => if xok w9 8 = true then xbI (F_X12_comes v5 (hi9 99 (Int32.toNatClampNeg w9)) hi9 hl9 r9) (fun w12 hi12 hl12 r12 => if w12 = 0 then (F_X12_sink_20 n) v1 v3 v4 (hi12 99 (Int32.toNatClampNeg w9)) (v6 + (-1)) hi12 hl12 r12 else some (w12, hi12, hl12, r12)) else none)
set_option maxRecDepth 20000 in
set_option maxHeartbeats 2000000 in
theorem r_X12_sink_20 : ∀ (n : Nat) (v1 : Int32) (v3 : Int32) (v4 : Int32) (v5 : Int32) (v6 : Int32) (d2 : Option Value) (d7 : Option Value) (d8 : Option Value) (hi : Nat → Nat → Int32) (hl : Nat → Nat → Int64) (r : xRr) (o : Int32 × xSt), F_X12_sink_20 n v1 v3 v4 v5 v6 hi hl r = some o → xR (RX12, cX12_sink, 9, false, 1) (3, 0, 0) z 0 0 20 [some (.ref 90), some (.int v1), d2, some (.int v3), some (.int v4), some (.int v5), some (.int v6), d7, d8] [] (xhp hi hl r) (xoI o) := by
  intro n
  induction n with
  | zero =>
    intro v1 v3 v4 v5 v6 d2 d7 d8 hi hl r o h
    have h : none = some o := h
    cases h
  | succ n ih =>
    intro v1 v3 v4 v5 v6 d2 d7 d8 hi hl r o h
    refine x_iload (pc' := 22) dX12_sink_20 rfl rfl ?_
    refine xg_ite h (fun g1 h => ?_) (fun g1 h => ?_)
    · refine x_if_lt (tgt := 72) (pc' := 25) dX12_sink_22 (by decide) rfl (fun _ => ?_) (fun hn => absurd g1 hn)
      refine x_aload_n (pc' := 73) dX12_sink_72 rfl rfl ?_
      refine x_iload (pc' := 75) dX12_sink_73 rfl rfl ?_
      refine xg_bI h (fun w3 hi3 hl3 r3 e2 h => ?_)
      refine x_callV (pc' := 78) (S := []) (As := [.int v4]) (b' := (0, 0, 0)) dX12_sink_75 l_X12_196 m_X12_refusedBy rfl rfl (show 90 < 122 by decide) rfl (Nat.le_of_ble_eq_true rfl) (Nat.le_of_ble_eq_true rfl) (Nat.le_of_ble_eq_true rfl) (Nat.le_of_ble_eq_true rfl) (r_X12_refusedBy _ _ _ _ _ e2) rfl ?_
      refine x_istore (pc' := 80) (L' := [some (.ref 90), some (.int v1), d2, some (.int v3), some (.int v4), some (.int v5), some (.int w3), d7, d8]) dX12_sink_78 (Nat.le_of_ble_eq_true rfl) rfl rfl ?_
      refine x_iload (pc' := 82) dX12_sink_80 rfl rfl ?_
      refine xg_ite h (fun g4 h => ?_) (fun g4 h => ?_)
      · refine x_if_ne (tgt := 101) (pc' := 85) dX12_sink_82 (by decide) rfl (fun hn => absurd g4 hn) (fun _ => ?_)
        refine x_aload_n (pc' := 86) dX12_sink_85 rfl rfl ?_
        refine x_iload (pc' := 88) dX12_sink_86 rfl rfl ?_
        refine x_aload_n (pc' := 89) dX12_sink_88 rfl rfl ?_
        refine x_getr (pc' := 92) (t := 91) dX12_sink_89 f_X12_7 (by decide) rfl rfl rfl rfl ?_
        refine x_iload (pc' := 94) dX12_sink_92 rfl rfl ?_
        refine xg_if h (fun g5 h => ?_)
        refine x_iald (pc' := 95) dX12_sink_94 (by decide) rfl (xok_in g5) rfl ?_
        refine xg_bI h (fun w7 hi7 hl7 r7 e6 h => ?_)
        refine x_callV (pc' := 98) (S := []) (As := [.int v5, .int (hi3 91 (Int32.toNatClampNeg v4))]) (b' := (2, 0, 0)) dX12_sink_95 l_X12_216 m_X12_comes rfl rfl (show 90 < 122 by decide) rfl (Nat.le_of_ble_eq_true rfl) (Nat.le_of_ble_eq_true rfl) (Nat.le_of_ble_eq_true rfl) (Nat.le_of_ble_eq_true rfl) (r_X12_comes _ _ _ _ _ _ e6) rfl ?_
        refine x_goto (tgt := 103) dX12_sink_98 (by decide) ?_
        exact r_X12_sink_103 _ _ _ _ _ _ _ _ _ _ _ _ _ h
      · refine x_if_ne (tgt := 101) (pc' := 85) dX12_sink_82 (by decide) rfl (fun _ => ?_) (fun hn => absurd hn g4)
        refine x_iload (pc' := 103) dX12_sink_101 rfl rfl ?_
        exact r_X12_sink_103 _ _ _ _ _ _ _ _ _ _ _ _ _ h
    · refine x_if_lt (tgt := 72) (pc' := 25) dX12_sink_22 (by decide) rfl (fun hn => absurd hn g1) (fun _ => ?_)
      refine x_aload_n (pc' := 26) dX12_sink_25 rfl rfl ?_
      refine x_iload_n (pc' := 27) dX12_sink_26 rfl rfl ?_
      refine x_iload (pc' := 29) dX12_sink_27 rfl rfl ?_
      refine xg_bI h (fun w9 hi9 hl9 r9 e8 h => ?_)
      refine x_callV (pc' := 32) (S := []) (As := [.int v1, .int v6]) (b' := (0, 0, 0)) dX12_sink_29 l_X12_199 m_X12_under rfl rfl (show 90 < 122 by decide) rfl (Nat.le_of_ble_eq_true rfl) (Nat.le_of_ble_eq_true rfl) (Nat.le_of_ble_eq_true rfl) (Nat.le_of_ble_eq_true rfl) (r_X12_under _ _ _ _ _ _ e8) rfl ?_
      refine x_istore (pc' := 34) (L' := [some (.ref 90), some (.int v1), d2, some (.int v3), some (.int v4), some (.int v5), some (.int v6), some (.int w9), d8]) dX12_sink_32 (Nat.le_of_ble_eq_true rfl) rfl rfl ?_
      refine x_aload_n (pc' := 35) dX12_sink_34 rfl rfl ?_
      refine x_iload (pc' := 37) dX12_sink_35 rfl rfl ?_
      refine x_aload_n (pc' := 38) dX12_sink_37 rfl rfl ?_
      refine x_getr (pc' := 41) (t := 99) dX12_sink_38 f_X12_35 (by decide) rfl rfl rfl rfl ?_
      refine x_iload (pc' := 43) dX12_sink_41 rfl rfl ?_
      refine xg_if h (fun g10 h => ?_)
      refine x_iald (pc' := 44) dX12_sink_43 (by decide) rfl (xok_in g10) rfl ?_
      refine xg_bI h (fun w12 hi12 hl12 r12 e11 h => ?_)
      refine x_callV (pc' := 47) (S := []) (As := [.int v5, .int (hi9 99 (Int32.toNatClampNeg w9))]) (b' := (2, 0, 0)) dX12_sink_44 l_X12_216 m_X12_comes rfl rfl (show 90 < 122 by decide) rfl (Nat.le_of_ble_eq_true rfl) (Nat.le_of_ble_eq_true rfl) (Nat.le_of_ble_eq_true rfl) (Nat.le_of_ble_eq_true rfl) (r_X12_comes _ _ _ _ _ _ e11) rfl ?_
      refine x_istore (pc' := 49) (L' := [some (.ref 90), some (.int v1), d2, some (.int v3), some (.int v4), some (.int v5), some (.int v6), some (.int w9), some (.int w12)]) dX12_sink_47 (Nat.le_of_ble_eq_true rfl) rfl rfl ?_
      refine x_iload (pc' := 51) dX12_sink_49 rfl rfl ?_
      refine xg_ite h (fun g13 h => ?_) (fun g13 h => ?_)
      · refine x_if_eq (tgt := 57) (pc' := 54) dX12_sink_51 (by decide) rfl (fun _ => ?_) (fun hn => absurd g13 hn)
        refine x_aload_n (pc' := 58) dX12_sink_57 rfl rfl ?_
        refine x_getr (pc' := 61) (t := 99) dX12_sink_58 f_X12_35 (by decide) rfl rfl rfl rfl ?_
        refine x_iload (pc' := 63) dX12_sink_61 rfl rfl ?_
        refine x_iald (pc' := 64) dX12_sink_63 (by decide) rfl (xok_in g10) rfl ?_
        refine x_istore (pc' := 66) (L' := [some (.ref 90), some (.int v1), d2, some (.int v3), some (.int v4), some (.int (hi12 99 (Int32.toNatClampNeg w9))), some (.int v6), some (.int w9), some (.int w12)]) dX12_sink_64 (Nat.le_of_ble_eq_true rfl) rfl rfl ?_
        refine x_iinc (pc' := 69) (v := (v6 + (-1))) (L' := [some (.ref 90), some (.int v1), d2, some (.int v3), some (.int v4), some (.int (hi12 99 (Int32.toNatClampNeg w9))), some (.int (v6 + (-1))), some (.int w9), some (.int w12)]) dX12_sink_66 rfl rfl (Nat.le_of_ble_eq_true rfl) rfl rfl ?_
        refine x_goto (tgt := 20) dX12_sink_69 (by decide) ?_
        exact ih _ _ _ _ _ _ _ _ _ _ _ _ h
      · refine x_if_eq (tgt := 57) (pc' := 54) dX12_sink_51 (by decide) rfl (fun hn => absurd hn g13) (fun _ => ?_)
        refine x_iload (pc' := 56) dX12_sink_54 rfl rfl ?_
        obtain rfl := Option.some.inj h
        exact x_iret dX12_sink_56 rfl rfl (Nat.le_of_ble_eq_true rfl) rfl
def F_X12_sink (v1 : Int32) (v2 : Int32) (v3 : Int32) (hi : Nat → Nat → Int32) (hl : Nat → Nat → Int64) (r : xRr) : Option (Int32 × xSt) := xbI (F_X12_bankOf v1 hi hl r) (fun w2 hi2 hl2 r2 => if xok v1 8 = true then F_X12_sink_20 1000000 v1 v3 w2 v2 ((hi2 100 (Int32.toNatClampNeg v1)) - (1 : Int32)) hi2 hl2 r2 else none)
set_option maxRecDepth 20000 in
set_option maxHeartbeats 2000000 in
theorem r_X12_sink (v1 : Int32) (v2 : Int32) (v3 : Int32) (hi : Nat → Nat → Int32) (hl : Nat → Nat → Int64) (r : xRr) (o : Int32 × xSt) (h : F_X12_sink v1 v2 v3 hi hl r = some o) : xM yX12_sink cX12_sink 9 1 (3, 0, 0) z [.ref 90, .int v1, .int v2, .int v3] (xhp hi hl r) (xoI o) := by
  refine x_meth2 (C := RX12) (ini := false) (L := [some (.ref 90), some (.int v1), some (.int v2), some (.int v3), none, none, none, none, none]) rfl (by decide) (fun h9 => by cases h9) (by decide) (Nat.le_of_ble_eq_true rfl) rfl ?_
  refine x_aload_n (pc' := 1) dX12_sink_0 rfl rfl ?_
  refine x_iload_n (pc' := 2) dX12_sink_1 rfl rfl ?_
  refine xg_bI h (fun w2 hi2 hl2 r2 e1 h => ?_)
  refine x_callV (pc' := 5) (S := []) (As := [.int v1]) (b' := (0, 0, 0)) dX12_sink_2 l_X12_192 m_X12_bankOf rfl rfl (show 90 < 122 by decide) rfl (Nat.le_of_ble_eq_true rfl) (Nat.le_of_ble_eq_true rfl) (Nat.le_of_ble_eq_true rfl) (Nat.le_of_ble_eq_true rfl) (r_X12_bankOf _ _ _ _ _ e1) rfl ?_
  refine x_istore (pc' := 7) (L' := [some (.ref 90), some (.int v1), some (.int v2), some (.int v3), some (.int w2), none, none, none, none]) dX12_sink_5 (Nat.le_of_ble_eq_true rfl) rfl rfl ?_
  refine x_iload_n (pc' := 8) dX12_sink_7 rfl rfl ?_
  refine x_istore (pc' := 10) (L' := [some (.ref 90), some (.int v1), some (.int v2), some (.int v3), some (.int w2), some (.int v2), none, none, none]) dX12_sink_8 (Nat.le_of_ble_eq_true rfl) rfl rfl ?_
  refine x_aload_n (pc' := 11) dX12_sink_10 rfl rfl ?_
  refine x_getr (pc' := 14) (t := 100) dX12_sink_11 f_X12_38 (by decide) rfl rfl rfl rfl ?_
  refine x_iload_n (pc' := 15) dX12_sink_14 rfl rfl ?_
  refine xg_if h (fun g3 h => ?_)
  refine x_iald (pc' := 16) dX12_sink_15 (by decide) rfl (xok_in g3) rfl ?_
  refine x_iconst (pc' := 17) (x := 1) dX12_sink_16 (by decide) rfl ?_
  refine x_isub (pc' := 18) dX12_sink_17 rfl ?_
  refine x_istore (pc' := 20) (L' := [some (.ref 90), some (.int v1), some (.int v2), some (.int v3), some (.int w2), some (.int v2), some (.int ((hi2 100 (Int32.toNatClampNeg v1)) - (1 : Int32))), none, none]) dX12_sink_18 (Nat.le_of_ble_eq_true rfl) rfl rfl ?_
  exact r_X12_sink_20 1000000 _ _ _ _ _ _ _ _ _ _ _ _ h
end
