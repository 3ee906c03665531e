/-! both objects made, from an empty small heap -/
def xH0 : xHp := (0, fun _ => (0, 0), fun _ _ => 0, fun _ _ => 0, fun _ _ => none)
def C_both : Option xHp := xbH (C_X11_init 0 0 0 (0 + 1) (xsu xH0.2.1 0 (10 + 5, xnf 10)) (xz xH0.2.2.1 0 0) (xz xH0.2.2.2.1 0 0) (xz xH0.2.2.2.2 0 none)) (fun n sh hi hl hr => C_X12_init n 0 0 (n + 1) (xsu sh n (11 + 5, xnf 11)) (xz hi n 0) (xz hl n 0) (xz hr n none))
def xr0 : xRr := (43, fun j => if j < 10 then some (46 + 3 * j) else none)
def xwell : List Int32 := [1, 2, 4, 10, 30, 62, 126, 254, 2047, 1, 250, 244, 248, 240, 224, 192, 128, 257, 506, 500, 504, 1520, 480, 448, 384, 768]
/-- the numbers that are not 0 at first -/
def xini (a j : Nat) : Int32 := if (xsh a).1 = 10 ∧ j = 0 then 10 else if (xsh a).1 = 7 ∧ j = 2 then -20 else if a = 83 ∧ j = 1 then 8191 else if a = 84 then xwell.getD j 0 else if a = 90 ∧ j = 13 then -20 else if a = 106 then -20 else 0
def xchk (H : xHp) : Bool := decide (H.1 = 122) && ((List.range 122).all fun a => decide (H.2.1 a = xsh a) && ((decide ((xsh a).1 < 3) || (List.range (xsh a).2).all fun j => decide (H.2.2.2.2 a j = xhr xr0 a j)) && (decide (144 < (xsh a).2) || (List.range (xsh a).2).all fun j => decide (H.2.2.1 a j = xini a j) && decide (H.2.2.2.1 a j = 0))))
set_option maxRecDepth 100000 in
theorem C_both_chk : (match C_both with | none => false | some H => xchk H) = true := by decide +kernel
set_option maxRecDepth 100000 in
theorem C_first_chk : (match C_X11_init 0 0 0 (0 + 1) (xsu xH0.2.1 0 (10 + 5, xnf 10)) (xz xH0.2.2.1 0 0) (xz xH0.2.2.2.1 0 0) (xz xH0.2.2.2.2 0 none) with | none => false | some H => decide (H.1 = 90)) = true := by decide +kernel
