def L_X8_undo_242 (K_6 : Int32 → St → Option (Int32 × St)) : Nat → Int32 → St → Option (Int32 × St)
  | 0, _, _ => none
  | n + 1, x1_6, S_6 =>
    if (8 : Int32) ≤ x1_6 then (K_6 x1_6 S_6)
    else (if 0 ≤ x1_6 ∧ x1_6.toNatClampNeg < 8 then (if 0 ≤ x1_6 ∧ x1_6.toNatClampNeg < 8 then (if 0 ≤ x1_6 ∧ x1_6.toNatClampNeg < 8 then (if 0 ≤ x1_6 ∧ x1_6.toNatClampNeg < 8 then (L_X8_undo_242 K_6 n (x1_6 + 1) (sI (sI S_6 40 0 x1_6.toNatClampNeg (gI S_6 50 0 x1_6.toNatClampNeg)) 41 0 x1_6.toNatClampNeg (gI (sI S_6 40 0 x1_6.toNatClampNeg (gI S_6 50 0 x1_6.toNatClampNeg)) 51 0 x1_6.toNatClampNeg)))
    else none)
    else none)
    else none)
    else none)
def L_X8_undo_217 (K_5 : Int32 → St → Option (Int32 × St)) : Nat → Int32 → St → Option (Int32 × St)
  | 0, _, _ => none
  | n + 1, x1_5, S_5 =>
    if (5 : Int32) ≤ x1_5 then (K_5 x1_5 S_5)
    else (if 0 ≤ x1_5 ∧ x1_5.toNatClampNeg < 5 then (if 0 ≤ x1_5 ∧ x1_5.toNatClampNeg < 5 then (L_X8_undo_217 K_5 n (x1_5 + 1) (sI S_5 39 0 x1_5.toNatClampNeg (gI S_5 49 0 x1_5.toNatClampNeg)))
    else none)
    else none)
def L_X8_undo_180 (K_4 : Int32 → St → Option (Int32 × St)) : Nat → Int32 → St → Option (Int32 × St)
  | 0, _, _ => none
  | n + 1, x1_4, S_4 =>
    if (4 : Int32) ≤ x1_4 then (K_4 x1_4 S_4)
    else (if 0 ≤ x1_4 ∧ x1_4.toNatClampNeg < 4 then (if 0 ≤ x1_4 ∧ x1_4.toNatClampNeg < 4 then (if 0 ≤ x1_4 ∧ x1_4.toNatClampNeg < 4 then (if 0 ≤ x1_4 ∧ x1_4.toNatClampNeg < 4 then (L_X8_undo_180 K_4 n (x1_4 + 1) (sI (sI S_4 37 0 x1_4.toNatClampNeg (gI S_4 47 0 x1_4.toNatClampNeg)) 38 0 x1_4.toNatClampNeg (gI (sI S_4 37 0 x1_4.toNatClampNeg (gI S_4 47 0 x1_4.toNatClampNeg)) 48 0 x1_4.toNatClampNeg)))
    else none)
    else none)
    else none)
    else none)
def L_X8_undo_154 (K_3 : Int32 → St → Option (Int32 × St)) : Nat → Int32 → St → Option (Int32 × St)
  | 0, _, _ => none
  | n + 1, x1_3, S_3 =>
    if (24 : Int32) ≤ x1_3 then (K_3 x1_3 S_3)
    else (if 0 ≤ x1_3 ∧ x1_3.toNatClampNeg < 24 then (if 0 ≤ x1_3 ∧ x1_3.toNatClampNeg < 24 then (L_X8_undo_154 K_3 n (x1_3 + 1) (sI S_3 26 0 x1_3.toNatClampNeg (gI S_3 46 0 x1_3.toNatClampNeg)))
    else none)
    else none)
def L_X8_undo_92 (K_2 : Int32 → St → Option (Int32 × St)) : Nat → Int32 → St → Option (Int32 × St)
  | 0, _, _ => none
  | n + 1, x1_2, S_2 =>
    if (6 : Int32) ≤ x1_2 then (K_2 x1_2 S_2)
    else (if 0 ≤ x1_2 ∧ x1_2.toNatClampNeg < 6 then (if 0 ≤ x1_2 ∧ x1_2.toNatClampNeg < 6 then (if 0 ≤ x1_2 ∧ x1_2.toNatClampNeg < 6 then (if 0 ≤ x1_2 ∧ x1_2.toNatClampNeg < 6 then (if 0 ≤ x1_2 ∧ x1_2.toNatClampNeg < 6 then (if 0 ≤ x1_2 ∧ x1_2.toNatClampNeg < 6 then (if 0 ≤ x1_2 ∧ x1_2.toNatClampNeg < 6 then (if 0 ≤ x1_2 ∧ x1_2.toNatClampNeg < 6 then (L_X8_undo_92 K_2 n (x1_2 + 1) (sI (sI (sI (sI S_2 22 0 x1_2.toNatClampNeg (gI S_2 42 0 x1_2.toNatClampNeg)) 23 0 x1_2.toNatClampNeg (gI (sI S_2 22 0 x1_2.toNatClampNeg (gI S_2 42 0 x1_2.toNatClampNeg)) 43 0 x1_2.toNatClampNeg)) 24 0 x1_2.toNatClampNeg (gI (sI (sI S_2 22 0 x1_2.toNatClampNeg (gI S_2 42 0 x1_2.toNatClampNeg)) 23 0 x1_2.toNatClampNeg (gI (sI S_2 22 0 x1_2.toNatClampNeg (gI S_2 42 0 x1_2.toNatClampNeg)) 43 0 x1_2.toNatClampNeg)) 44 0 x1_2.toNatClampNeg)) 25 0 x1_2.toNatClampNeg (gI (sI (sI (sI S_2 22 0 x1_2.toNatClampNeg (gI S_2 42 0 x1_2.toNatClampNeg)) 23 0 x1_2.toNatClampNeg (gI (sI S_2 22 0 x1_2.toNatClampNeg (gI S_2 42 0 x1_2.toNatClampNeg)) 43 0 x1_2.toNatClampNeg)) 24 0 x1_2.toNatClampNeg (gI (sI (sI S_2 22 0 x1_2.toNatClampNeg (gI S_2 42 0 x1_2.toNatClampNeg)) 23 0 x1_2.toNatClampNeg (gI (sI S_2 22 0 x1_2.toNatClampNeg (gI S_2 42 0 x1_2.toNatClampNeg)) 43 0 x1_2.toNatClampNeg)) 44 0 x1_2.toNatClampNeg)) 45 0 x1_2.toNatClampNeg)))
    else none)
    else none)
    else none)
    else none)
    else none)
    else none)
    else none)
    else none)
def F_X8_undo (S : St) : Option (Int32 × St) :=
  if (gI S 8 0 44) = 0 then (some ((-3 : Int32), S))
  else (L_X8_undo_92 
  (fun y1_2 T_2 => L_X8_undo_154 
  (fun y1_3 T_3 => L_X8_undo_180 
  (fun y1_4 T_4 => L_X8_undo_217 
  (fun y1_5 T_5 => L_X8_undo_242 
  (fun y1_6 T_6 => some (gI T_6 8 0 0, T_6)) 1000 (0 : Int32) T_5) 1000 (0 : Int32) T_4) 1000 (0 : Int32) T_3) 1000 (0 : Int32) T_2) 1000 (0 : Int32) (sI (sI (sI (sI (sI (sI (sI (sI (sI (sI S 8 0 12 (gI S 8 0 45)) 8 0 0 (gI (sI S 8 0 12 (gI S 8 0 45)) 8 0 46)) 8 0 1 (gI (sI (sI S 8 0 12 (gI S 8 0 45)) 8 0 0 (gI (sI S 8 0 12 (gI S 8 0 45)) 8 0 46)) 8 0 47)) 8 0 2 (gI (sI (sI (sI S 8 0 12 (gI S 8 0 45)) 8 0 0 (gI (sI S 8 0 12 (gI S 8 0 45)) 8 0 46)) 8 0 1 (gI (sI (sI S 8 0 12 (gI S 8 0 45)) 8 0 0 (gI (sI S 8 0 12 (gI S 8 0 45)) 8 0 46)) 8 0 47)) 8 0 48)) 8 0 3 (gI (sI (sI (sI (sI S 8 0 12 (gI S 8 0 45)) 8 0 0 (gI (sI S 8 0 12 (gI S 8 0 45)) 8 0 46)) 8 0 1 (gI (sI (sI S 8 0 12 (gI S 8 0 45)) 8 0 0 (gI (sI S 8 0 12 (gI S 8 0 45)) 8 0 46)) 8 0 47)) 8 0 2 (gI (sI (sI (sI S 8 0 12 (gI S 8 0 45)) 8 0 0 (gI (sI S 8 0 12 (gI S 8 0 45)) 8 0 46)) 8 0 1 (gI (sI (sI S 8 0 12 (gI S 8 0 45)) 8 0 0 (gI (sI S 8 0 12 (gI S 8 0 45)) 8 0 46)) 8 0 47)) 8 0 48)) 8 0 49)) 8 0 4 (gI (sI (sI (sI (sI (sI S 8 0 12 (gI S 8 0 45)) 8 0 0 (gI (sI S 8 0 12 (gI S 8 0 45)) 8 0 46)) 8 0 1 (gI (sI (sI S 8 0 12 (gI S 8 0 45)) 8 0 0 (gI (sI S 8 0 12 (gI S 8 0 45)) 8 0 46)) 8 0 47)) 8 0 2 (gI (sI (sI (sI S 8 0 12 (gI S 8 0 45)) 8 0 0 (gI (sI S 8 0 12 (gI S 8 0 45)) 8 0 46)) 8 0 1 (gI (sI (sI S 8 0 12 (gI S 8 0 45)) 8 0 0 (gI (sI S 8 0 12 (gI S 8 0 45)) 8 0 46)) 8 0 47)) 8 0 48)) 8 0 3 (gI (sI (sI (sI (sI S 8 0 12 (gI S 8 0 45)) 8 0 0 (gI (sI S 8 0 12 (gI S 8 0 45)) 8 0 46)) 8 0 1 (gI (sI (sI S 8 0 12 (gI S 8 0 45)) 8 0 0 (gI (sI S 8 0 12 (gI S 8 0 45)) 8 0 46)) 8 0 47)) 8 0 2 (gI (sI (sI (sI S 8 0 12 (gI S 8 0 45)) 8 0 0 (gI (sI S 8 0 12 (gI S 8 0 45)) 8 0 46)) 8 0 1 (gI (sI (sI S 8 0 12 (gI S 8 0 45)) 8 0 0 (gI (sI S 8 0 12 (gI S 8 0 45)) 8 0 46)) 8 0 47)) 8 0 48)) 8 0 49)) 8 0 50)) 8 0 5 (gI (sI (sI (sI (sI (sI (sI S 8 0 12 (gI S 8 0 45)) 8 0 0 (gI (sI S 8 0 12 (gI S 8 0 45)) 8 0 46)) 8 0 1 (gI (sI (sI S 8 0 12 (gI S 8 0 45)) 8 0 0 (gI (sI S 8 0 12 (gI S 8 0 45)) 8 0 46)) 8 0 47)) 8 0 2 (gI (sI (sI (sI S 8 0 12 (gI S 8 0 45)) 8 0 0 (gI (sI S 8 0 12 (gI S 8 0 45)) 8 0 46)) 8 0 1 (gI (sI (sI S 8 0 12 (gI S 8 0 45)) 8 0 0 (gI (sI S 8 0 12 (gI S 8 0 45)) 8 0 46)) 8 0 47)) 8 0 48)) 8 0 3 (gI (sI (sI (sI (sI S 8 0 12 (gI S 8 0 45)) 8 0 0 (gI (sI S 8 0 12 (gI S 8 0 45)) 8 0 46)) 8 0 1 (gI (sI (sI S 8 0 12 (gI S 8 0 45)) 8 0 0 (gI (sI S 8 0 12 (gI S 8 0 45)) 8 0 46)) 8 0 47)) 8 0 2 (gI (sI (sI (sI S 8 0 12 (gI S 8 0 45)) 8 0 0 (gI (sI S 8 0 12 (gI S 8 0 45)) 8 0 46)) 8 0 1 (gI (sI (sI S 8 0 12 (gI S 8 0 45)) 8 0 0 (gI (sI S 8 0 12 (gI S 8 0 45)) 8 0 46)) 8 0 47)) 8 0 48)) 8 0 49)) 8 0 4 (gI (sI (sI (sI (sI (sI S 8 0 12 (gI S 8 0 45)) 8 0 0 (gI (sI S 8 0 12 (gI S 8 0 45)) 8 0 46)) 8 0 1 (gI (sI (sI S 8 0 12 (gI S 8 0 45)) 8 0 0 (gI (sI S 8 0 12 (gI S 8 0 45)) 8 0 46)) 8 0 47)) 8 0 2 (gI (sI (sI (sI S 8 0 12 (gI S 8 0 45)) 8 0 0 (gI (sI S 8 0 12 (gI S 8 0 45)) 8 0 46)) 8 0 1 (gI (sI (sI S 8 0 12 (gI S 8 0 45)) 8 0 0 (gI (sI S 8 0 12 (gI S 8 0 45)) 8 0 46)) 8 0 47)) 8 0 48)) 8 0 3 (gI (sI (sI (sI (sI S 8 0 12 (gI S 8 0 45)) 8 0 0 (gI (sI S 8 0 12 (gI S 8 0 45)) 8 0 46)) 8 0 1 (gI (sI (sI S 8 0 12 (gI S 8 0 45)) 8 0 0 (gI (sI S 8 0 12 (gI S 8 0 45)) 8 0 46)) 8 0 47)) 8 0 2 (gI (sI (sI (sI S 8 0 12 (gI S 8 0 45)) 8 0 0 (gI (sI S 8 0 12 (gI S 8 0 45)) 8 0 46)) 8 0 1 (gI (sI (sI S 8 0 12 (gI S 8 0 45)) 8 0 0 (gI (sI S 8 0 12 (gI S 8 0 45)) 8 0 46)) 8 0 47)) 8 0 48)) 8 0 49)) 8 0 50)) 8 0 51)) 8 0 36 (gI (sI (sI (sI (sI (sI (sI (sI S 8 0 12 (gI S 8 0 45)) 8 0 0 (gI (sI S 8 0 12 (gI S 8 0 45)) 8 0 46)) 8 0 1 (gI (sI (sI S 8 0 12 (gI S 8 0 45)) 8 0 0 (gI (sI S 8 0 12 (gI S 8 0 45)) 8 0 46)) 8 0 47)) 8 0 2 (gI (sI (sI (sI S 8 0 12 (gI S 8 0 45)) 8 0 0 (gI (sI S 8 0 12 (gI S 8 0 45)) 8 0 46)) 8 0 1 (gI (sI (sI S 8 0 12 (gI S 8 0 45)) 8 0 0 (gI (sI S 8 0 12 (gI S 8 0 45)) 8 0 46)) 8 0 47)) 8 0 48)) 8 0 3 (gI (sI (sI (sI (sI S 8 0 12 (gI S 8 0 45)) 8 0 0 (gI (sI S 8 0 12 (gI S 8 0 45)) 8 0 46)) 8 0 1 (gI (sI (sI S 8 0 12 (gI S 8 0 45)) 8 0 0 (gI (sI S 8 0 12 (gI S 8 0 45)) 8 0 46)) 8 0 47)) 8 0 2 (gI (sI (sI (sI S 8 0 12 (gI S 8 0 45)) 8 0 0 (gI (sI S 8 0 12 (gI S 8 0 45)) 8 0 46)) 8 0 1 (gI (sI (sI S 8 0 12 (gI S 8 0 45)) 8 0 0 (gI (sI S 8 0 12 (gI S 8 0 45)) 8 0 46)) 8 0 47)) 8 0 48)) 8 0 49)) 8 0 4 (gI (sI (sI (sI (sI (sI S 8 0 12 (gI S 8 0 45)) 8 0 0 (gI (sI S 8 0 12 (gI S 8 0 45)) 8 0 46)) 8 0 1 (gI (sI (sI S 8 0 12 (gI S 8 0 45)) 8 0 0 (gI (sI S 8 0 12 (gI S 8 0 45)) 8 0 46)) 8 0 47)) 8 0 2 (gI (sI (sI (sI S 8 0 12 (gI S 8 0 45)) 8 0 0 (gI (sI S 8 0 12 (gI S 8 0 45)) 8 0 46)) 8 0 1 (gI (sI (sI S 8 0 12 (gI S 8 0 45)) 8 0 0 (gI (sI S 8 0 12 (gI S 8 0 45)) 8 0 46)) 8 0 47)) 8 0 48)) 8 0 3 (gI (sI (sI (sI (sI S 8 0 12 (gI S 8 0 45)) 8 0 0 (gI (sI S 8 0 12 (gI S 8 0 45)) 8 0 46)) 8 0 1 (gI (sI (sI S 8 0 12 (gI S 8 0 45)) 8 0 0 (gI (sI S 8 0 12 (gI S 8 0 45)) 8 0 46)) 8 0 47)) 8 0 2 (gI (sI (sI (sI S 8 0 12 (gI S 8 0 45)) 8 0 0 (gI (sI S 8 0 12 (gI S 8 0 45)) 8 0 46)) 8 0 1 (gI (sI (sI S 8 0 12 (gI S 8 0 45)) 8 0 0 (gI (sI S 8 0 12 (gI S 8 0 45)) 8 0 46)) 8 0 47)) 8 0 48)) 8 0 49)) 8 0 50)) 8 0 5 (gI (sI (sI (sI (sI (sI (sI S 8 0 12 (gI S 8 0 45)) 8 0 0 (gI (sI S 8 0 12 (gI S 8 0 45)) 8 0 46)) 8 0 1 (gI (sI (sI S 8 0 12 (gI S 8 0 45)) 8 0 0 (gI (sI S 8 0 12 (gI S 8 0 45)) 8 0 46)) 8 0 47)) 8 0 2 (gI (sI (sI (sI S 8 0 12 (gI S 8 0 45)) 8 0 0 (gI (sI S 8 0 12 (gI S 8 0 45)) 8 0 46)) 8 0 1 (gI (sI (sI S 8 0 12 (gI S 8 0 45)) 8 0 0 (gI (sI S 8 0 12 (gI S 8 0 45)) 8 0 46)) 8 0 47)) 8 0 48)) 8 0 3 (gI (sI (sI (sI (sI S 8 0 12 (gI S 8 0 45)) 8 0 0 (gI (sI S 8 0 12 (gI S 8 0 45)) 8 0 46)) 8 0 1 (gI (sI (sI S 8 0 12 (gI S 8 0 45)) 8 0 0 (gI (sI S 8 0 12 (gI S 8 0 45)) 8 0 46)) 8 0 47)) 8 0 2 (gI (sI (sI (sI S 8 0 12 (gI S 8 0 45)) 8 0 0 (gI (sI S 8 0 12 (gI S 8 0 45)) 8 0 46)) 8 0 1 (gI (sI (sI S 8 0 12 (gI S 8 0 45)) 8 0 0 (gI (sI S 8 0 12 (gI S 8 0 45)) 8 0 46)) 8 0 47)) 8 0 48)) 8 0 49)) 8 0 4 (gI (sI (sI (sI (sI (sI S 8 0 12 (gI S 8 0 45)) 8 0 0 (gI (sI S 8 0 12 (gI S 8 0 45)) 8 0 46)) 8 0 1 (gI (sI (sI S 8 0 12 (gI S 8 0 45)) 8 0 0 (gI (sI S 8 0 12 (gI S 8 0 45)) 8 0 46)) 8 0 47)) 8 0 2 (gI (sI (sI (sI S 8 0 12 (gI S 8 0 45)) 8 0 0 (gI (sI S 8 0 12 (gI S 8 0 45)) 8 0 46)) 8 0 1 (gI (sI (sI S 8 0 12 (gI S 8 0 45)) 8 0 0 (gI (sI S 8 0 12 (gI S 8 0 45)) 8 0 46)) 8 0 47)) 8 0 48)) 8 0 3 (gI (sI (sI (sI (sI S 8 0 12 (gI S 8 0 45)) 8 0 0 (gI (sI S 8 0 12 (gI S 8 0 45)) 8 0 46)) 8 0 1 (gI (sI (sI S 8 0 12 (gI S 8 0 45)) 8 0 0 (gI (sI S 8 0 12 (gI S 8 0 45)) 8 0 46)) 8 0 47)) 8 0 2 (gI (sI (sI (sI S 8 0 12 (gI S 8 0 45)) 8 0 0 (gI (sI S 8 0 12 (gI S 8 0 45)) 8 0 46)) 8 0 1 (gI (sI (sI S 8 0 12 (gI S 8 0 45)) 8 0 0 (gI (sI S 8 0 12 (gI S 8 0 45)) 8 0 46)) 8 0 47)) 8 0 48)) 8 0 49)) 8 0 50)) 8 0 51)) 8 0 52)) 8 0 39 (gI (sI (sI (sI (sI (sI (sI (sI (sI S 8 0 12 (gI S 8 0 45)) 8 0 0 (gI (sI S 8 0 12 (gI S 8 0 45)) 8 0 46)) 8 0 1 (gI (sI (sI S 8 0 12 (gI S 8 0 45)) 8 0 0 (gI (sI S 8 0 12 (gI S 8 0 45)) 8 0 46)) 8 0 47)) 8 0 2 (gI (sI (sI (sI S 8 0 12 (gI S 8 0 45)) 8 0 0 (gI (sI S 8 0 12 (gI S 8 0 45)) 8 0 46)) 8 0 1 (gI (sI (sI S 8 0 12 (gI S 8 0 45)) 8 0 0 (gI (sI S 8 0 12 (gI S 8 0 45)) 8 0 46)) 8 0 47)) 8 0 48)) 8 0 3 (gI (sI (sI (sI (sI S 8 0 12 (gI S 8 0 45)) 8 0 0 (gI (sI S 8 0 12 (gI S 8 0 45)) 8 0 46)) 8 0 1 (gI (sI (sI S 8 0 12 (gI S 8 0 45)) 8 0 0 (gI (sI S 8 0 12 (gI S 8 0 45)) 8 0 46)) 8 0 47)) 8 0 2 (gI (sI (sI (sI S 8 0 12 (gI S 8 0 45)) 8 0 0 (gI (sI S 8 0 12 (gI S 8 0 45)) 8 0 46)) 8 0 1 (gI (sI (sI S 8 0 12 (gI S 8 0 45)) 8 0 0 (gI (sI S 8 0 12 (gI S 8 0 45)) 8 0 46)) 8 0 47)) 8 0 48)) 8 0 49)) 8 0 4 (gI (sI (sI (sI (sI (sI S 8 0 12 (gI S 8 0 45)) 8 0 0 (gI (sI S 8 0 12 (gI S 8 0 45)) 8 0 46)) 8 0 1 (gI (sI (sI S 8 0 12 (gI S 8 0 45)) 8 0 0 (gI (sI S 8 0 12 (gI S 8 0 45)) 8 0 46)) 8 0 47)) 8 0 2 (gI (sI (sI (sI S 8 0 12 (gI S 8 0 45)) 8 0 0 (gI (sI S 8 0 12 (gI S 8 0 45)) 8 0 46)) 8 0 1 (gI (sI (sI S 8 0 12 (gI S 8 0 45)) 8 0 0 (gI (sI S 8 0 12 (gI S 8 0 45)) 8 0 46)) 8 0 47)) 8 0 48)) 8 0 3 (gI (sI (sI (sI (sI S 8 0 12 (gI S 8 0 45)) 8 0 0 (gI (sI S 8 0 12 (gI S 8 0 45)) 8 0 46)) 8 0 1 (gI (sI (sI S 8 0 12 (gI S 8 0 45)) 8 0 0 (gI (sI S 8 0 12 (gI S 8 0 45)) 8 0 46)) 8 0 47)) 8 0 2 (gI (sI (sI (sI S 8 0 12 (gI S 8 0 45)) 8 0 0 (gI (sI S 8 0 12 (gI S 8 0 45)) 8 0 46)) 8 0 1 (gI (sI (sI S 8 0 12 (gI S 8 0 45)) 8 0 0 (gI (sI S 8 0 12 (gI S 8 0 45)) 8 0 46)) 8 0 47)) 8 0 48)) 8 0 49)) 8 0 50)) 8 0 5 (gI (sI (sI (sI (sI (sI (sI S 8 0 12 (gI S 8 0 45)) 8 0 0 (gI (sI S 8 0 12 (gI S 8 0 45)) 8 0 46)) 8 0 1 (gI (sI (sI S 8 0 12 (gI S 8 0 45)) 8 0 0 (gI (sI S 8 0 12 (gI S 8 0 45)) 8 0 46)) 8 0 47)) 8 0 2 (gI (sI (sI (sI S 8 0 12 (gI S 8 0 45)) 8 0 0 (gI (sI S 8 0 12 (gI S 8 0 45)) 8 0 46)) 8 0 1 (gI (sI (sI S 8 0 12 (gI S 8 0 45)) 8 0 0 (gI (sI S 8 0 12 (gI S 8 0 45)) 8 0 46)) 8 0 47)) 8 0 48)) 8 0 3 (gI (sI (sI (sI (sI S 8 0 12 (gI S 8 0 45)) 8 0 0 (gI (sI S 8 0 12 (gI S 8 0 45)) 8 0 46)) 8 0 1 (gI (sI (sI S 8 0 12 (gI S 8 0 45)) 8 0 0 (gI (sI S 8 0 12 (gI S 8 0 45)) 8 0 46)) 8 0 47)) 8 0 2 (gI (sI (sI (sI S 8 0 12 (gI S 8 0 45)) 8 0 0 (gI (sI S 8 0 12 (gI S 8 0 45)) 8 0 46)) 8 0 1 (gI (sI (sI S 8 0 12 (gI S 8 0 45)) 8 0 0 (gI (sI S 8 0 12 (gI S 8 0 45)) 8 0 46)) 8 0 47)) 8 0 48)) 8 0 49)) 8 0 4 (gI (sI (sI (sI (sI (sI S 8 0 12 (gI S 8 0 45)) 8 0 0 (gI (sI S 8 0 12 (gI S 8 0 45)) 8 0 46)) 8 0 1 (gI (sI (sI S 8 0 12 (gI S 8 0 45)) 8 0 0 (gI (sI S 8 0 12 (gI S 8 0 45)) 8 0 46)) 8 0 47)) 8 0 2 (gI (sI (sI (sI S 8 0 12 (gI S 8 0 45)) 8 0 0 (gI (sI S 8 0 12 (gI S 8 0 45)) 8 0 46)) 8 0 1 (gI (sI (sI S 8 0 12 (gI S 8 0 45)) 8 0 0 (gI (sI S 8 0 12 (gI S 8 0 45)) 8 0 46)) 8 0 47)) 8 0 48)) 8 0 3 (gI (sI (sI (sI (sI S 8 0 12 (gI S 8 0 45)) 8 0 0 (gI (sI S 8 0 12 (gI S 8 0 45)) 8 0 46)) 8 0 1 (gI (sI (sI S 8 0 12 (gI S 8 0 45)) 8 0 0 (gI (sI S 8 0 12 (gI S 8 0 45)) 8 0 46)) 8 0 47)) 8 0 2 (gI (sI (sI (sI S 8 0 12 (gI S 8 0 45)) 8 0 0 (gI (sI S 8 0 12 (gI S 8 0 45)) 8 0 46)) 8 0 1 (gI (sI (sI S 8 0 12 (gI S 8 0 45)) 8 0 0 (gI (sI S 8 0 12 (gI S 8 0 45)) 8 0 46)) 8 0 47)) 8 0 48)) 8 0 49)) 8 0 50)) 8 0 51)) 8 0 36 (gI (sI (sI (sI (sI (sI (sI (sI S 8 0 12 (gI S 8 0 45)) 8 0 0 (gI (sI S 8 0 12 (gI S 8 0 45)) 8 0 46)) 8 0 1 (gI (sI (sI S 8 0 12 (gI S 8 0 45)) 8 0 0 (gI (sI S 8 0 12 (gI S 8 0 45)) 8 0 46)) 8 0 47)) 8 0 2 (gI (sI (sI (sI S 8 0 12 (gI S 8 0 45)) 8 0 0 (gI (sI S 8 0 12 (gI S 8 0 45)) 8 0 46)) 8 0 1 (gI (sI (sI S 8 0 12 (gI S 8 0 45)) 8 0 0 (gI (sI S 8 0 12 (gI S 8 0 45)) 8 0 46)) 8 0 47)) 8 0 48)) 8 0 3 (gI (sI (sI (sI (sI S 8 0 12 (gI S 8 0 45)) 8 0 0 (gI (sI S 8 0 12 (gI S 8 0 45)) 8 0 46)) 8 0 1 (gI (sI (sI S 8 0 12 (gI S 8 0 45)) 8 0 0 (gI (sI S 8 0 12 (gI S 8 0 45)) 8 0 46)) 8 0 47)) 8 0 2 (gI (sI (sI (sI S 8 0 12 (gI S 8 0 45)) 8 0 0 (gI (sI S 8 0 12 (gI S 8 0 45)) 8 0 46)) 8 0 1 (gI (sI (sI S 8 0 12 (gI S 8 0 45)) 8 0 0 (gI (sI S 8 0 12 (gI S 8 0 45)) 8 0 46)) 8 0 47)) 8 0 48)) 8 0 49)) 8 0 4 (gI (sI (sI (sI (sI (sI S 8 0 12 (gI S 8 0 45)) 8 0 0 (gI (sI S 8 0 12 (gI S 8 0 45)) 8 0 46)) 8 0 1 (gI (sI (sI S 8 0 12 (gI S 8 0 45)) 8 0 0 (gI (sI S 8 0 12 (gI S 8 0 45)) 8 0 46)) 8 0 47)) 8 0 2 (gI (sI (sI (sI S 8 0 12 (gI S 8 0 45)) 8 0 0 (gI (sI S 8 0 12 (gI S 8 0 45)) 8 0 46)) 8 0 1 (gI (sI (sI S 8 0 12 (gI S 8 0 45)) 8 0 0 (gI (sI S 8 0 12 (gI S 8 0 45)) 8 0 46)) 8 0 47)) 8 0 48)) 8 0 3 (gI (sI (sI (sI (sI S 8 0 12 (gI S 8 0 45)) 8 0 0 (gI (sI S 8 0 12 (gI S 8 0 45)) 8 0 46)) 8 0 1 (gI (sI (sI S 8 0 12 (gI S 8 0 45)) 8 0 0 (gI (sI S 8 0 12 (gI S 8 0 45)) 8 0 46)) 8 0 47)) 8 0 2 (gI (sI (sI (sI S 8 0 12 (gI S 8 0 45)) 8 0 0 (gI (sI S 8 0 12 (gI S 8 0 45)) 8 0 46)) 8 0 1 (gI (sI (sI S 8 0 12 (gI S 8 0 45)) 8 0 0 (gI (sI S 8 0 12 (gI S 8 0 45)) 8 0 46)) 8 0 47)) 8 0 48)) 8 0 49)) 8 0 50)) 8 0 5 (gI (sI (sI (sI (sI (sI (sI S 8 0 12 (gI S 8 0 45)) 8 0 0 (gI (sI S 8 0 12 (gI S 8 0 45)) 8 0 46)) 8 0 1 (gI (sI (sI S 8 0 12 (gI S 8 0 45)) 8 0 0 (gI (sI S 8 0 12 (gI S 8 0 45)) 8 0 46)) 8 0 47)) 8 0 2 (gI (sI (sI (sI S 8 0 12 (gI S 8 0 45)) 8 0 0 (gI (sI S 8 0 12 (gI S 8 0 45)) 8 0 46)) 8 0 1 (gI (sI (sI S 8 0 12 (gI S 8 0 45)) 8 0 0 (gI (sI S 8 0 12 (gI S 8 0 45)) 8 0 46)) 8 0 47)) 8 0 48)) 8 0 3 (gI (sI (sI (sI (sI S 8 0 12 (gI S 8 0 45)) 8 0 0 (gI (sI S 8 0 12 (gI S 8 0 45)) 8 0 46)) 8 0 1 (gI (sI (sI S 8 0 12 (gI S 8 0 45)) 8 0 0 (gI (sI S 8 0 12 (gI S 8 0 45)) 8 0 46)) 8 0 47)) 8 0 2 (gI (sI (sI (sI S 8 0 12 (gI S 8 0 45)) 8 0 0 (gI (sI S 8 0 12 (gI S 8 0 45)) 8 0 46)) 8 0 1 (gI (sI (sI S 8 0 12 (gI S 8 0 45)) 8 0 0 (gI (sI S 8 0 12 (gI S 8 0 45)) 8 0 46)) 8 0 47)) 8 0 48)) 8 0 49)) 8 0 4 (gI (sI (sI (sI (sI (sI S 8 0 12 (gI S 8 0 45)) 8 0 0 (gI (sI S 8 0 12 (gI S 8 0 45)) 8 0 46)) 8 0 1 (gI (sI (sI S 8 0 12 (gI S 8 0 45)) 8 0 0 (gI (sI S 8 0 12 (gI S 8 0 45)) 8 0 46)) 8 0 47)) 8 0 2 (gI (sI (sI (sI S 8 0 12 (gI S 8 0 45)) 8 0 0 (gI (sI S 8 0 12 (gI S 8 0 45)) 8 0 46)) 8 0 1 (gI (sI (sI S 8 0 12 (gI S 8 0 45)) 8 0 0 (gI (sI S 8 0 12 (gI S 8 0 45)) 8 0 46)) 8 0 47)) 8 0 48)) 8 0 3 (gI (sI (sI (sI (sI S 8 0 12 (gI S 8 0 45)) 8 0 0 (gI (sI S 8 0 12 (gI S 8 0 45)) 8 0 46)) 8 0 1 (gI (sI (sI S 8 0 12 (gI S 8 0 45)) 8 0 0 (gI (sI S 8 0 12 (gI S 8 0 45)) 8 0 46)) 8 0 47)) 8 0 2 (gI (sI (sI (sI S 8 0 12 (gI S 8 0 45)) 8 0 0 (gI (sI S 8 0 12 (gI S 8 0 45)) 8 0 46)) 8 0 1 (gI (sI (sI S 8 0 12 (gI S 8 0 45)) 8 0 0 (gI (sI S 8 0 12 (gI S 8 0 45)) 8 0 46)) 8 0 47)) 8 0 48)) 8 0 49)) 8 0 50)) 8 0 51)) 8 0 52)) 8 0 53)) 8 0 41 (gI (sI (sI (sI (sI (sI (sI (sI (sI (sI S 8 0 12 (gI S 8 0 45)) 8 0 0 (gI (sI S 8 0 12 (gI S 8 0 45)) 8 0 46)) 8 0 1 (gI (sI (sI S 8 0 12 (gI S 8 0 45)) 8 0 0 (gI (sI S 8 0 12 (gI S 8 0 45)) 8 0 46)) 8 0 47)) 8 0 2 (gI (sI (sI (sI S 8 0 12 (gI S 8 0 45)) 8 0 0 (gI (sI S 8 0 12 (gI S 8 0 45)) 8 0 46)) 8 0 1 (gI (sI (sI S 8 0 12 (gI S 8 0 45)) 8 0 0 (gI (sI S 8 0 12 (gI S 8 0 45)) 8 0 46)) 8 0 47)) 8 0 48)) 8 0 3 (gI (sI (sI (sI (sI S 8 0 12 (gI S 8 0 45)) 8 0 0 (gI (sI S 8 0 12 (gI S 8 0 45)) 8 0 46)) 8 0 1 (gI (sI (sI S 8 0 12 (gI S 8 0 45)) 8 0 0 (gI (sI S 8 0 12 (gI S 8 0 45)) 8 0 46)) 8 0 47)) 8 0 2 (gI (sI (sI (sI S 8 0 12 (gI S 8 0 45)) 8 0 0 (gI (sI S 8 0 12 (gI S 8 0 45)) 8 0 46)) 8 0 1 (gI (sI (sI S 8 0 12 (gI S 8 0 45)) 8 0 0 (gI (sI S 8 0 12 (gI S 8 0 45)) 8 0 46)) 8 0 47)) 8 0 48)) 8 0 49)) 8 0 4 (gI (sI (sI (sI (sI (sI S 8 0 12 (gI S 8 0 45)) 8 0 0 (gI (sI S 8 0 12 (gI S 8 0 45)) 8 0 46)) 8 0 1 (gI (sI (sI S 8 0 12 (gI S 8 0 45)) 8 0 0 (gI (sI S 8 0 12 (gI S 8 0 45)) 8 0 46)) 8 0 47)) 8 0 2 (gI (sI (sI (sI S 8 0 12 (gI S 8 0 45)) 8 0 0 (gI (sI S 8 0 12 (gI S 8 0 45)) 8 0 46)) 8 0 1 (gI (sI (sI S 8 0 12 (gI S 8 0 45)) 8 0 0 (gI (sI S 8 0 12 (gI S 8 0 45)) 8 0 46)) 8 0 47)) 8 0 48)) 8 0 3 (gI (sI (sI (sI (sI S 8 0 12 (gI S 8 0 45)) 8 0 0 (gI (sI S 8 0 12 (gI S 8 0 45)) 8 0 46)) 8 0 1 (gI (sI (sI S 8 0 12 (gI S 8 0 45)) 8 0 0 (gI (sI S 8 0 12 (gI S 8 0 45)) 8 0 46)) 8 0 47)) 8 0 2 (gI (sI (sI (sI S 8 0 12 (gI S 8 0 45)) 8 0 0 (gI (sI S 8 0 12 (gI S 8 0 45)) 8 0 46)) 8 0 1 (gI (sI (sI S 8 0 12 (gI S 8 0 45)) 8 0 0 (gI (sI S 8 0 12 (gI S 8 0 45)) 8 0 46)) 8 0 47)) 8 0 48)) 8 0 49)) 8 0 50)) 8 0 5 (gI (sI (sI (sI (sI (sI (sI S 8 0 12 (gI S 8 0 45)) 8 0 0 (gI (sI S 8 0 12 (gI S 8 0 45)) 8 0 46)) 8 0 1 (gI (sI (sI S 8 0 12 (gI S 8 0 45)) 8 0 0 (gI (sI S 8 0 12 (gI S 8 0 45)) 8 0 46)) 8 0 47)) 8 0 2 (gI (sI (sI (sI S 8 0 12 (gI S 8 0 45)) 8 0 0 (gI (sI S 8 0 12 (gI S 8 0 45)) 8 0 46)) 8 0 1 (gI (sI (sI S 8 0 12 (gI S 8 0 45)) 8 0 0 (gI (sI S 8 0 12 (gI S 8 0 45)) 8 0 46)) 8 0 47)) 8 0 48)) 8 0 3 (gI (sI (sI (sI (sI S 8 0 12 (gI S 8 0 45)) 8 0 0 (gI (sI S 8 0 12 (gI S 8 0 45)) 8 0 46)) 8 0 1 (gI (sI (sI S 8 0 12 (gI S 8 0 45)) 8 0 0 (gI (sI S 8 0 12 (gI S 8 0 45)) 8 0 46)) 8 0 47)) 8 0 2 (gI (sI (sI (sI S 8 0 12 (gI S 8 0 45)) 8 0 0 (gI (sI S 8 0 12 (gI S 8 0 45)) 8 0 46)) 8 0 1 (gI (sI (sI S 8 0 12 (gI S 8 0 45)) 8 0 0 (gI (sI S 8 0 12 (gI S 8 0 45)) 8 0 46)) 8 0 47)) 8 0 48)) 8 0 49)) 8 0 4 (gI (sI (sI (sI (sI (sI S 8 0 12 (gI S 8 0 45)) 8 0 0 (gI (sI S 8 0 12 (gI S 8 0 45)) 8 0 46)) 8 0 1 (gI (sI (sI S 8 0 12 (gI S 8 0 45)) 8 0 0 (gI (sI S 8 0 12 (gI S 8 0 45)) 8 0 46)) 8 0 47)) 8 0 2 (gI (sI (sI (sI S 8 0 12 (gI S 8 0 45)) 8 0 0 (gI (sI S 8 0 12 (gI S 8 0 45)) 8 0 46)) 8 0 1 (gI (sI (sI S 8 0 12 (gI S 8 0 45)) 8 0 0 (gI (sI S 8 0 12 (gI S 8 0 45)) 8 0 46)) 8 0 47)) 8 0 48)) 8 0 3 (gI (sI (sI (sI (sI S 8 0 12 (gI S 8 0 45)) 8 0 0 (gI (sI S 8 0 12 (gI S 8 0 45)) 8 0 46)) 8 0 1 (gI (sI (sI S 8 0 12 (gI S 8 0 45)) 8 0 0 (gI (sI S 8 0 12 (gI S 8 0 45)) 8 0 46)) 8 0 47)) 8 0 2 (gI (sI (sI (sI S 8 0 12 (gI S 8 0 45)) 8 0 0 (gI (sI S 8 0 12 (gI S 8 0 45)) 8 0 46)) 8 0 1 (gI (sI (sI S 8 0 12 (gI S 8 0 45)) 8 0 0 (gI (sI S 8 0 12 (gI S 8 0 45)) 8 0 46)) 8 0 47)) 8 0 48)) 8 0 49)) 8 0 50)) 8 0 51)) 8 0 36 (gI (sI (sI (sI (sI (sI (sI (sI S 8 0 12 (gI S 8 0 45)) 8 0 0 (gI (sI S 8 0 12 (gI S 8 0 45)) 8 0 46)) 8 0 1 (gI (sI (sI S 8 0 12 (gI S 8 0 45)) 8 0 0 (gI (sI S 8 0 12 (gI S 8 0 45)) 8 0 46)) 8 0 47)) 8 0 2 (gI (sI (sI (sI S 8 0 12 (gI S 8 0 45)) 8 0 0 (gI (sI S 8 0 12 (gI S 8 0 45)) 8 0 46)) 8 0 1 (gI (sI (sI S 8 0 12 (gI S 8 0 45)) 8 0 0 (gI (sI S 8 0 12 (gI S 8 0 45)) 8 0 46)) 8 0 47)) 8 0 48)) 8 0 3 (gI (sI (sI (sI (sI S 8 0 12 (gI S 8 0 45)) 8 0 0 (gI (sI S 8 0 12 (gI S 8 0 45)) 8 0 46)) 8 0 1 (gI (sI (sI S 8 0 12 (gI S 8 0 45)) 8 0 0 (gI (sI S 8 0 12 (gI S 8 0 45)) 8 0 46)) 8 0 47)) 8 0 2 (gI (sI (sI (sI S 8 0 12 (gI S 8 0 45)) 8 0 0 (gI (sI S 8 0 12 (gI S 8 0 45)) 8 0 46)) 8 0 1 (gI (sI (sI S 8 0 12 (gI S 8 0 45)) 8 0 0 (gI (sI S 8 0 12 (gI S 8 0 45)) 8 0 46)) 8 0 47)) 8 0 48)) 8 0 49)) 8 0 4 (gI (sI (sI (sI (sI (sI S 8 0 12 (gI S 8 0 45)) 8 0 0 (gI (sI S 8 0 12 (gI S 8 0 45)) 8 0 46)) 8 0 1 (gI (sI (sI S 8 0 12 (gI S 8 0 45)) 8 0 0 (gI (sI S 8 0 12 (gI S 8 0 45)) 8 0 46)) 8 0 47)) 8 0 2 (gI (sI (sI (sI S 8 0 12 (gI S 8 0 45)) 8 0 0 (gI (sI S 8 0 12 (gI S 8 0 45)) 8 0 46)) 8 0 1 (gI (sI (sI S 8 0 12 (gI S 8 0 45)) 8 0 0 (gI (sI S 8 0 12 (gI S 8 0 45)) 8 0 46)) 8 0 47)) 8 0 48)) 8 0 3 (gI (sI (sI (sI (sI S 8 0 12 (gI S 8 0 45)) 8 0 0 (gI (sI S 8 0 12 (gI S 8 0 45)) 8 0 46)) 8 0 1 (gI (sI (sI S 8 0 12 (gI S 8 0 45)) 8 0 0 (gI (sI S 8 0 12 (gI S 8 0 45)) 8 0 46)) 8 0 47)) 8 0 2 (gI (sI (sI (sI S 8 0 12 (gI S 8 0 45)) 8 0 0 (gI (sI S 8 0 12 (gI S 8 0 45)) 8 0 46)) 8 0 1 (gI (sI (sI S 8 0 12 (gI S 8 0 45)) 8 0 0 (gI (sI S 8 0 12 (gI S 8 0 45)) 8 0 46)) 8 0 47)) 8 0 48)) 8 0 49)) 8 0 50)) 8 0 5 (gI (sI (sI (sI (sI (sI (sI S 8 0 12 (gI S 8 0 45)) 8 0 0 (gI (sI S 8 0 12 (gI S 8 0 45)) 8 0 46)) 8 0 1 (gI (sI (sI S 8 0 12 (gI S 8 0 45)) 8 0 0 (gI (sI S 8 0 12 (gI S 8 0 45)) 8 0 46)) 8 0 47)) 8 0 2 (gI (sI (sI (sI S 8 0 12 (gI S 8 0 45)) 8 0 0 (gI (sI S 8 0 12 (gI S 8 0 45)) 8 0 46)) 8 0 1 (gI (sI (sI S 8 0 12 (gI S 8 0 45)) 8 0 0 (gI (sI S 8 0 12 (gI S 8 0 45)) 8 0 46)) 8 0 47)) 8 0 48)) 8 0 3 (gI (sI (sI (sI (sI S 8 0 12 (gI S 8 0 45)) 8 0 0 (gI (sI S 8 0 12 (gI S 8 0 45)) 8 0 46)) 8 0 1 (gI (sI (sI S 8 0 12 (gI S 8 0 45)) 8 0 0 (gI (sI S 8 0 12 (gI S 8 0 45)) 8 0 46)) 8 0 47)) 8 0 2 (gI (sI (sI (sI S 8 0 12 (gI S 8 0 45)) 8 0 0 (gI (sI S 8 0 12 (gI S 8 0 45)) 8 0 46)) 8 0 1 (gI (sI (sI S 8 0 12 (gI S 8 0 45)) 8 0 0 (gI (sI S 8 0 12 (gI S 8 0 45)) 8 0 46)) 8 0 47)) 8 0 48)) 8 0 49)) 8 0 4 (gI (sI (sI (sI (sI (sI S 8 0 12 (gI S 8 0 45)) 8 0 0 (gI (sI S 8 0 12 (gI S 8 0 45)) 8 0 46)) 8 0 1 (gI (sI (sI S 8 0 12 (gI S 8 0 45)) 8 0 0 (gI (sI S 8 0 12 (gI S 8 0 45)) 8 0 46)) 8 0 47)) 8 0 2 (gI (sI (sI (sI S 8 0 12 (gI S 8 0 45)) 8 0 0 (gI (sI S 8 0 12 (gI S 8 0 45)) 8 0 46)) 8 0 1 (gI (sI (sI S 8 0 12 (gI S 8 0 45)) 8 0 0 (gI (sI S 8 0 12 (gI S 8 0 45)) 8 0 46)) 8 0 47)) 8 0 48)) 8 0 3 (gI (sI (sI (sI (sI S 8 0 12 (gI S 8 0 45)) 8 0 0 (gI (sI S 8 0 12 (gI S 8 0 45)) 8 0 46)) 8 0 1 (gI (sI (sI S 8 0 12 (gI S 8 0 45)) 8 0 0 (gI (sI S 8 0 12 (gI S 8 0 45)) 8 0 46)) 8 0 47)) 8 0 2 (gI (sI (sI (sI S 8 0 12 (gI S 8 0 45)) 8 0 0 (gI (sI S 8 0 12 (gI S 8 0 45)) 8 0 46)) 8 0 1 (gI (sI (sI S 8 0 12 (gI S 8 0 45)) 8 0 0 (gI (sI S 8 0 12 (gI S 8 0 45)) 8 0 46)) 8 0 47)) 8 0 48)) 8 0 49)) 8 0 50)) 8 0 51)) 8 0 52)) 8 0 39 (gI (sI (sI (sI (sI (sI (sI (sI (sI S 8 0 12 (gI S 8 0 45)) 8 0 0 (gI (sI S 8 0 12 (gI S 8 0 45)) 8 0 46)) 8 0 1 (gI (sI (sI S 8 0 12 (gI S 8 0 45)) 8 0 0 (gI (sI S 8 0 12 (gI S 8 0 45)) 8 0 46)) 8 0 47)) 8 0 2 (gI (sI (sI (sI S 8 0 12 (gI S 8 0 45)) 8 0 0 (gI (sI S 8 0 12 (gI S 8 0 45)) 8 0 46)) 8 0 1 (gI (sI (sI S 8 0 12 (gI S 8 0 45)) 8 0 0 (gI (sI S 8 0 12 (gI S 8 0 45)) 8 0 46)) 8 0 47)) 8 0 48)) 8 0 3 (gI (sI (sI (sI (sI S 8 0 12 (gI S 8 0 45)) 8 0 0 (gI (sI S 8 0 12 (gI S 8 0 45)) 8 0 46)) 8 0 1 (gI (sI (sI S 8 0 12 (gI S 8 0 45)) 8 0 0 (gI (sI S 8 0 12 (gI S 8 0 45)) 8 0 46)) 8 0 47)) 8 0 2 (gI (sI (sI (sI S 8 0 12 (gI S 8 0 45)) 8 0 0 (gI (sI S 8 0 12 (gI S 8 0 45)) 8 0 46)) 8 0 1 (gI (sI (sI S 8 0 12 (gI S 8 0 45)) 8 0 0 (gI (sI S 8 0 12 (gI S 8 0 45)) 8 0 46)) 8 0 47)) 8 0 48)) 8 0 49)) 8 0 4 (gI (sI (sI (sI (sI (sI S 8 0 12 (gI S 8 0 45)) 8 0 0 (gI (sI S 8 0 12 (gI S 8 0 45)) 8 0 46)) 8 0 1 (gI (sI (sI S 8 0 12 (gI S 8 0 45)) 8 0 0 (gI (sI S 8 0 12 (gI S 8 0 45)) 8 0 46)) 8 0 47)) 8 0 2 (gI (sI (sI (sI S 8 0 12 (gI S 8 0 45)) 8 0 0 (gI (sI S 8 0 12 (gI S 8 0 45)) 8 0 46)) 8 0 1 (gI (sI (sI S 8 0 12 (gI S 8 0 45)) 8 0 0 (gI (sI S 8 0 12 (gI S 8 0 45)) 8 0 46)) 8 0 47)) 8 0 48)) 8 0 3 (gI (sI (sI (sI (sI S 8 0 12 (gI S 8 0 45)) 8 0 0 (gI (sI S 8 0 12 (gI S 8 0 45)) 8 0 46)) 8 0 1 (gI (sI (sI S 8 0 12 (gI S 8 0 45)) 8 0 0 (gI (sI S 8 0 12 (gI S 8 0 45)) 8 0 46)) 8 0 47)) 8 0 2 (gI (sI (sI (sI S 8 0 12 (gI S 8 0 45)) 8 0 0 (gI (sI S 8 0 12 (gI S 8 0 45)) 8 0 46)) 8 0 1 (gI (sI (sI S 8 0 12 (gI S 8 0 45)) 8 0 0 (gI (sI S 8 0 12 (gI S 8 0 45)) 8 0 46)) 8 0 47)) 8 0 48)) 8 0 49)) 8 0 50)) 8 0 5 (gI (sI (sI (sI (sI (sI (sI S 8 0 12 (gI S 8 0 45)) 8 0 0 (gI (sI S 8 0 12 (gI S 8 0 45)) 8 0 46)) 8 0 1 (gI (sI (sI S 8 0 12 (gI S 8 0 45)) 8 0 0 (gI (sI S 8 0 12 (gI S 8 0 45)) 8 0 46)) 8 0 47)) 8 0 2 (gI (sI (sI (sI S 8 0 12 (gI S 8 0 45)) 8 0 0 (gI (sI S 8 0 12 (gI S 8 0 45)) 8 0 46)) 8 0 1 (gI (sI (sI S 8 0 12 (gI S 8 0 45)) 8 0 0 (gI (sI S 8 0 12 (gI S 8 0 45)) 8 0 46)) 8 0 47)) 8 0 48)) 8 0 3 (gI (sI (sI (sI (sI S 8 0 12 (gI S 8 0 45)) 8 0 0 (gI (sI S 8 0 12 (gI S 8 0 45)) 8 0 46)) 8 0 1 (gI (sI (sI S 8 0 12 (gI S 8 0 45)) 8 0 0 (gI (sI S 8 0 12 (gI S 8 0 45)) 8 0 46)) 8 0 47)) 8 0 2 (gI (sI (sI (sI S 8 0 12 (gI S 8 0 45)) 8 0 0 (gI (sI S 8 0 12 (gI S 8 0 45)) 8 0 46)) 8 0 1 (gI (sI (sI S 8 0 12 (gI S 8 0 45)) 8 0 0 (gI (sI S 8 0 12 (gI S 8 0 45)) 8 0 46)) 8 0 47)) 8 0 48)) 8 0 49)) 8 0 4 (gI (sI (sI (sI (sI (sI S 8 0 12 (gI S 8 0 45)) 8 0 0 (gI (sI S 8 0 12 (gI S 8 0 45)) 8 0 46)) 8 0 1 (gI (sI (sI S 8 0 12 (gI S 8 0 45)) 8 0 0 (gI (sI S 8 0 12 (gI S 8 0 45)) 8 0 46)) 8 0 47)) 8 0 2 (gI (sI (sI (sI S 8 0 12 (gI S 8 0 45)) 8 0 0 (gI (sI S 8 0 12 (gI S 8 0 45)) 8 0 46)) 8 0 1 (gI (sI (sI S 8 0 12 (gI S 8 0 45)) 8 0 0 (gI (sI S 8 0 12 (gI S 8 0 45)) 8 0 46)) 8 0 47)) 8 0 48)) 8 0 3 (gI (sI (sI (sI (sI S 8 0 12 (gI S 8 0 45)) 8 0 0 (gI (sI S 8 0 12 (gI S 8 0 45)) 8 0 46)) 8 0 1 (gI (sI (sI S 8 0 12 (gI S 8 0 45)) 8 0 0 (gI (sI S 8 0 12 (gI S 8 0 45)) 8 0 46)) 8 0 47)) 8 0 2 (gI (sI (sI (sI S 8 0 12 (gI S 8 0 45)) 8 0 0 (gI (sI S 8 0 12 (gI S 8 0 45)) 8 0 46)) 8 0 1 (gI (sI (sI S 8 0 12 (gI S 8 0 45)) 8 0 0 (gI (sI S 8 0 12 (gI S 8 0 45)) 8 0 46)) 8 0 47)) 8 0 48)) 8 0 49)) 8 0 50)) 8 0 51)) 8 0 36 (gI (sI (sI (sI (sI (sI (sI (sI S 8 0 12 (gI S 8 0 45)) 8 0 0 (gI (sI S 8 0 12 (gI S 8 0 45)) 8 0 46)) 8 0 1 (gI (sI (sI S 8 0 12 (gI S 8 0 45)) 8 0 0 (gI (sI S 8 0 12 (gI S 8 0 45)) 8 0 46)) 8 0 47)) 8 0 2 (gI (sI (sI (sI S 8 0 12 (gI S 8 0 45)) 8 0 0 (gI (sI S 8 0 12 (gI S 8 0 45)) 8 0 46)) 8 0 1 (gI (sI (sI S 8 0 12 (gI S 8 0 45)) 8 0 0 (gI (sI S 8 0 12 (gI S 8 0 45)) 8 0 46)) 8 0 47)) 8 0 48)) 8 0 3 (gI (sI (sI (sI (sI S 8 0 12 (gI S 8 0 45)) 8 0 0 (gI (sI S 8 0 12 (gI S 8 0 45)) 8 0 46)) 8 0 1 (gI (sI (sI S 8 0 12 (gI S 8 0 45)) 8 0 0 (gI (sI S 8 0 12 (gI S 8 0 45)) 8 0 46)) 8 0 47)) 8 0 2 (gI (sI (sI (sI S 8 0 12 (gI S 8 0 45)) 8 0 0 (gI (sI S 8 0 12 (gI S 8 0 45)) 8 0 46)) 8 0 1 (gI (sI (sI S 8 0 12 (gI S 8 0 45)) 8 0 0 (gI (sI S 8 0 12 (gI S 8 0 45)) 8 0 46)) 8 0 47)) 8 0 48)) 8 0 49)) 8 0 4 (gI (sI (sI (sI (sI (sI S 8 0 12 (gI S 8 0 45)) 8 0 0 (gI (sI S 8 0 12 (gI S 8 0 45)) 8 0 46)) 8 0 1 (gI (sI (sI S 8 0 12 (gI S 8 0 45)) 8 0 0 (gI (sI S 8 0 12 (gI S 8 0 45)) 8 0 46)) 8 0 47)) 8 0 2 (gI (sI (sI (sI S 8 0 12 (gI S 8 0 45)) 8 0 0 (gI (sI S 8 0 12 (gI S 8 0 45)) 8 0 46)) 8 0 1 (gI (sI (sI S 8 0 12 (gI S 8 0 45)) 8 0 0 (gI (sI S 8 0 12 (gI S 8 0 45)) 8 0 46)) 8 0 47)) 8 0 48)) 8 0 3 (gI (sI (sI (sI (sI S 8 0 12 (gI S 8 0 45)) 8 0 0 (gI (sI S 8 0 12 (gI S 8 0 45)) 8 0 46)) 8 0 1 (gI (sI (sI S 8 0 12 (gI S 8 0 45)) 8 0 0 (gI (sI S 8 0 12 (gI S 8 0 45)) 8 0 46)) 8 0 47)) 8 0 2 (gI (sI (sI (sI S 8 0 12 (gI S 8 0 45)) 8 0 0 (gI (sI S 8 0 12 (gI S 8 0 45)) 8 0 46)) 8 0 1 (gI (sI (sI S 8 0 12 (gI S 8 0 45)) 8 0 0 (gI (sI S 8 0 12 (gI S 8 0 45)) 8 0 46)) 8 0 47)) 8 0 48)) 8 0 49)) 8 0 50)) 8 0 5 (gI (sI (sI (sI (sI (sI (sI S 8 0 12 (gI S 8 0 45)) 8 0 0 (gI (sI S 8 0 12 (gI S 8 0 45)) 8 0 46)) 8 0 1 (gI (sI (sI S 8 0 12 (gI S 8 0 45)) 8 0 0 (gI (sI S 8 0 12 (gI S 8 0 45)) 8 0 46)) 8 0 47)) 8 0 2 (gI (sI (sI (sI S 8 0 12 (gI S 8 0 45)) 8 0 0 (gI (sI S 8 0 12 (gI S 8 0 45)) 8 0 46)) 8 0 1 (gI (sI (sI S 8 0 12 (gI S 8 0 45)) 8 0 0 (gI (sI S 8 0 12 (gI S 8 0 45)) 8 0 46)) 8 0 47)) 8 0 48)) 8 0 3 (gI (sI (sI (sI (sI S 8 0 12 (gI S 8 0 45)) 8 0 0 (gI (sI S 8 0 12 (gI S 8 0 45)) 8 0 46)) 8 0 1 (gI (sI (sI S 8 0 12 (gI S 8 0 45)) 8 0 0 (gI (sI S 8 0 12 (gI S 8 0 45)) 8 0 46)) 8 0 47)) 8 0 2 (gI (sI (sI (sI S 8 0 12 (gI S 8 0 45)) 8 0 0 (gI (sI S 8 0 12 (gI S 8 0 45)) 8 0 46)) 8 0 1 (gI (sI (sI S 8 0 12 (gI S 8 0 45)) 8 0 0 (gI (sI S 8 0 12 (gI S 8 0 45)) 8 0 46)) 8 0 47)) 8 0 48)) 8 0 49)) 8 0 4 (gI (sI (sI (sI (sI (sI S 8 0 12 (gI S 8 0 45)) 8 0 0 (gI (sI S 8 0 12 (gI S 8 0 45)) 8 0 46)) 8 0 1 (gI (sI (sI S 8 0 12 (gI S 8 0 45)) 8 0 0 (gI (sI S 8 0 12 (gI S 8 0 45)) 8 0 46)) 8 0 47)) 8 0 2 (gI (sI (sI (sI S 8 0 12 (gI S 8 0 45)) 8 0 0 (gI (sI S 8 0 12 (gI S 8 0 45)) 8 0 46)) 8 0 1 (gI (sI (sI S 8 0 12 (gI S 8 0 45)) 8 0 0 (gI (sI S 8 0 12 (gI S 8 0 45)) 8 0 46)) 8 0 47)) 8 0 48)) 8 0 3 (gI (sI (sI (sI (sI S 8 0 12 (gI S 8 0 45)) 8 0 0 (gI (sI S 8 0 12 (gI S 8 0 45)) 8 0 46)) 8 0 1 (gI (sI (sI S 8 0 12 (gI S 8 0 45)) 8 0 0 (gI (sI S 8 0 12 (gI S 8 0 45)) 8 0 46)) 8 0 47)) 8 0 2 (gI (sI (sI (sI S 8 0 12 (gI S 8 0 45)) 8 0 0 (gI (sI S 8 0 12 (gI S 8 0 45)) 8 0 46)) 8 0 1 (gI (sI (sI S 8 0 12 (gI S 8 0 45)) 8 0 0 (gI (sI S 8 0 12 (gI S 8 0 45)) 8 0 46)) 8 0 47)) 8 0 48)) 8 0 49)) 8 0 50)) 8 0 51)) 8 0 52)) 8 0 53)) 8 0 54)))
set_option maxRecDepth 10000 in
theorem c_X8_undo (l : Launch) {D : va_G} {cy : Nat → ClassId} {ad : Nat → Nat → Nat} (hJ : wJ ad nM) (S : St) : CT l yX8_undo cX8_undo 2 (some .int) 0 D cy ad nM toI okT [.ref (ad 8 0)] S (F_X8_undo S) := by
  refine CT.of RX8 (by decide) rfl hJ (Nat.le_of_ble_eq_true rfl) rfl ?_
  intro p e s m below meth c cx
  unfold F_X8_undo
  refine G_aload_n (q := 1) cx dX8_undo_0 rfl rfl ?_
  refine G_geti (q := 4) cx dX8_undo_1 rfl cf_8 fl_RX8_144 (Nat.le_of_ble_eq_true rfl) rfl (Nat.le_of_ble_eq_true rfl) ?_
  refine G_if_ne (q := 7) (t := 10) cx dX8_undo_4 rfl (by decide) (fun c1 => ?_) (fun c1 => ?_)
  · refine G_aload_n (q := 11) cx dX8_undo_10 rfl rfl ?_
    refine G_aload_n (q := 12) cx dX8_undo_11 rfl rfl ?_
    refine G_geti (q := 15) cx dX8_undo_12 rfl cf_8 fl_RX8_148 (Nat.le_of_ble_eq_true rfl) rfl (Nat.le_of_ble_eq_true rfl) ?_
    refine G_puti (q := 18) cx dX8_undo_15 rfl cf_8 fl_RX8_47 (Nat.le_of_ble_eq_true rfl) rfl rfl rfl rfl rfl (Nat.le_of_ble_eq_true rfl) ?_
    refine G_aload_n (q := 19) cx dX8_undo_18 rfl rfl ?_
    refine G_aload_n (q := 20) cx dX8_undo_19 rfl rfl ?_
    refine G_geti (q := 23) cx dX8_undo_20 rfl cf_8 fl_RX8_151 (Nat.le_of_ble_eq_true rfl) rfl (Nat.le_of_ble_eq_true rfl) ?_
    refine G_puti (q := 26) cx dX8_undo_23 rfl cf_8 fl_RX8_7 (Nat.le_of_ble_eq_true rfl) rfl rfl rfl rfl rfl (Nat.le_of_ble_eq_true rfl) ?_
    refine G_aload_n (q := 27) cx dX8_undo_26 rfl rfl ?_
    refine G_aload_n (q := 28) cx dX8_undo_27 rfl rfl ?_
    refine G_geti (q := 31) cx dX8_undo_28 rfl cf_8 fl_RX8_154 (Nat.le_of_ble_eq_true rfl) rfl (Nat.le_of_ble_eq_true rfl) ?_
    refine G_puti (q := 34) cx dX8_undo_31 rfl cf_8 fl_RX8_13 (Nat.le_of_ble_eq_true rfl) rfl rfl rfl rfl rfl (Nat.le_of_ble_eq_true rfl) ?_
    refine G_aload_n (q := 35) cx dX8_undo_34 rfl rfl ?_
    refine G_aload_n (q := 36) cx dX8_undo_35 rfl rfl ?_
    refine G_geti (q := 39) cx dX8_undo_36 rfl cf_8 fl_RX8_157 (Nat.le_of_ble_eq_true rfl) rfl (Nat.le_of_ble_eq_true rfl) ?_
    refine G_puti (q := 42) cx dX8_undo_39 rfl cf_8 fl_RX8_16 (Nat.le_of_ble_eq_true rfl) rfl rfl rfl rfl rfl (Nat.le_of_ble_eq_true rfl) ?_
    refine G_aload_n (q := 43) cx dX8_undo_42 rfl rfl ?_
    refine G_aload_n (q := 44) cx dX8_undo_43 rfl rfl ?_
    refine G_geti (q := 47) cx dX8_undo_44 rfl cf_8 fl_RX8_160 (Nat.le_of_ble_eq_true rfl) rfl (Nat.le_of_ble_eq_true rfl) ?_
    refine G_puti (q := 50) cx dX8_undo_47 rfl cf_8 fl_RX8_19 (Nat.le_of_ble_eq_true rfl) rfl rfl rfl rfl rfl (Nat.le_of_ble_eq_true rfl) ?_
    refine G_aload_n (q := 51) cx dX8_undo_50 rfl rfl ?_
    refine G_aload_n (q := 52) cx dX8_undo_51 rfl rfl ?_
    refine G_geti (q := 55) cx dX8_undo_52 rfl cf_8 fl_RX8_163 (Nat.le_of_ble_eq_true rfl) rfl (Nat.le_of_ble_eq_true rfl) ?_
    refine G_puti (q := 58) cx dX8_undo_55 rfl cf_8 fl_RX8_22 (Nat.le_of_ble_eq_true rfl) rfl rfl rfl rfl rfl (Nat.le_of_ble_eq_true rfl) ?_
    refine G_aload_n (q := 59) cx dX8_undo_58 rfl rfl ?_
    refine G_aload_n (q := 60) cx dX8_undo_59 rfl rfl ?_
    refine G_geti (q := 63) cx dX8_undo_60 rfl cf_8 fl_RX8_166 (Nat.le_of_ble_eq_true rfl) rfl (Nat.le_of_ble_eq_true rfl) ?_
    refine G_puti (q := 66) cx dX8_undo_63 rfl cf_8 fl_RX8_25 (Nat.le_of_ble_eq_true rfl) rfl rfl rfl rfl rfl (Nat.le_of_ble_eq_true rfl) ?_
    refine G_aload_n (q := 67) cx dX8_undo_66 rfl rfl ?_
    refine G_aload_n (q := 68) cx dX8_undo_67 rfl rfl ?_
    refine G_geti (q := 71) cx dX8_undo_68 rfl cf_8 fl_RX8_169 (Nat.le_of_ble_eq_true rfl) rfl (Nat.le_of_ble_eq_true rfl) ?_
    refine G_puti (q := 74) cx dX8_undo_71 rfl cf_8 fl_RX8_120 (Nat.le_of_ble_eq_true rfl) rfl rfl rfl rfl rfl (Nat.le_of_ble_eq_true rfl) ?_
    refine G_aload_n (q := 75) cx dX8_undo_74 rfl rfl ?_
    refine G_aload_n (q := 76) cx dX8_undo_75 rfl rfl ?_
    refine G_geti (q := 79) cx dX8_undo_76 rfl cf_8 fl_RX8_172 (Nat.le_of_ble_eq_true rfl) rfl (Nat.le_of_ble_eq_true rfl) ?_
    refine G_puti (q := 82) cx dX8_undo_79 rfl cf_8 fl_RX8_129 (Nat.le_of_ble_eq_true rfl) rfl rfl rfl rfl rfl (Nat.le_of_ble_eq_true rfl) ?_
    refine G_aload_n (q := 83) cx dX8_undo_82 rfl rfl ?_
    refine G_aload_n (q := 84) cx dX8_undo_83 rfl rfl ?_
    refine G_geti (q := 87) cx dX8_undo_84 rfl cf_8 fl_RX8_175 (Nat.le_of_ble_eq_true rfl) rfl (Nat.le_of_ble_eq_true rfl) ?_
    refine G_puti (q := 90) cx dX8_undo_87 rfl cf_8 fl_RX8_135 (Nat.le_of_ble_eq_true rfl) rfl rfl rfl rfl rfl (Nat.le_of_ble_eq_true rfl) ?_
    refine G_iconst (q := 91) (v := (0 : Int32)) cx dX8_undo_90 rfl (by decide) ?_
    refine G_istore_n (q := 92) (ls' := [(1, .int (0 : Int32)), (0, .ref (ad 8 0))]) cx dX8_undo_91 rfl rfl (Nat.le_of_ble_eq_true rfl) rfl ?_
    have lp_2 : ∀ (K_2 : Int32 → St → Option (Int32 × St)) (hK_2 : ∀ (y1_2 : Int32) (T_2 : St), TG p l e 0 s m ([.ref (ad 8 0)] : List Value).toArray below meth c D cy ad nM toI okT T_2 152 [(1, .int y1_2), (0, .ref (ad 8 0))] [] (K_2 y1_2 T_2)), ∀ (n_2 : Nat) (x1_2 : Int32) (S_2 : St), TG p l e 0 s m ([.ref (ad 8 0)] : List Value).toArray below meth c D cy ad nM toI okT S_2 92 [(1, .int x1_2), (0, .ref (ad 8 0))] [] (L_X8_undo_92 K_2 n_2 x1_2 S_2) := by
      intro K_2 hK_2 n_2
      induction n_2 with
      | zero => intros; exact G_none
      | succ n_2 ih_2 =>
        intro x1_2 S_2
        rw [L_X8_undo_92.eq_2]
        refine G_iload_n (q := 93) cx dX8_undo_92 rfl rfl ?_
        refine G_bipush (q := 95) (v := (6 : Int32)) cx dX8_undo_93 rfl (by decide) ?_
        refine G_icmp_ge (q := 98) (t := 152) cx dX8_undo_95 rfl (by decide) (fun c35 => ?_) (fun c35 => ?_)
        · exact G_loc [0, 1] rfl (hK_2 x1_2 S_2)
        refine G_aload_n (q := 99) cx dX8_undo_98 rfl rfl ?_
        refine G_getr (q := 102) (g := 22) (i' := 0) cx dX8_undo_99 rfl cf_8 fl_RX8_28 (Nat.le_of_ble_eq_true rfl) rfl rfl (Nat.le_of_ble_eq_true rfl) ?_
        refine G_iload_n (q := 103) cx dX8_undo_102 rfl rfl ?_
        refine G_aload_n (q := 104) cx dX8_undo_103 rfl rfl ?_
        refine G_getr (q := 107) (g := 42) (i' := 0) cx dX8_undo_104 rfl cf_8 fl_RX8_178 (Nat.le_of_ble_eq_true rfl) rfl rfl (Nat.le_of_ble_eq_true rfl) ?_
        refine G_iload_n (q := 108) cx dX8_undo_107 rfl rfl ?_
        refine G_iald (q := 109) cx dX8_undo_108 rfl (by decide) rfl rfl (Nat.le_of_ble_eq_true rfl) (fun g36 g37 => ?_)
        refine G_iast (q := 110) cx dX8_undo_109 rfl (by decide) rfl rfl (Nat.le_of_ble_eq_true rfl) (fun g38 g39 => ?_)
        refine G_aload_n (q := 111) cx dX8_undo_110 rfl rfl ?_
        refine G_getr (q := 114) (g := 23) (i' := 0) cx dX8_undo_111 rfl cf_8 fl_RX8_32 (Nat.le_of_ble_eq_true rfl) rfl rfl (Nat.le_of_ble_eq_true rfl) ?_
        refine G_iload_n (q := 115) cx dX8_undo_114 rfl rfl ?_
        refine G_aload_n (q := 116) cx dX8_undo_115 rfl rfl ?_
        refine G_getr (q := 119) (g := 43) (i' := 0) cx dX8_undo_116 rfl cf_8 fl_RX8_181 (Nat.le_of_ble_eq_true rfl) rfl rfl (Nat.le_of_ble_eq_true rfl) ?_
        refine G_iload_n (q := 120) cx dX8_undo_119 rfl rfl ?_
        refine G_iald (q := 121) cx dX8_undo_120 rfl (by decide) rfl rfl (Nat.le_of_ble_eq_true rfl) (fun g40 g41 => ?_)
        refine G_iast (q := 122) cx dX8_undo_121 rfl (by decide) rfl rfl (Nat.le_of_ble_eq_true rfl) (fun g42 g43 => ?_)
        refine G_aload_n (q := 123) cx dX8_undo_122 rfl rfl ?_
        refine G_getr (q := 126) (g := 24) (i' := 0) cx dX8_undo_123 rfl cf_8 fl_RX8_35 (Nat.le_of_ble_eq_true rfl) rfl rfl (Nat.le_of_ble_eq_true rfl) ?_
        refine G_iload_n (q := 127) cx dX8_undo_126 rfl rfl ?_
        refine G_aload_n (q := 128) cx dX8_undo_127 rfl rfl ?_
        refine G_getr (q := 131) (g := 44) (i' := 0) cx dX8_undo_128 rfl cf_8 fl_RX8_184 (Nat.le_of_ble_eq_true rfl) rfl rfl (Nat.le_of_ble_eq_true rfl) ?_
        refine G_iload_n (q := 132) cx dX8_undo_131 rfl rfl ?_
        refine G_iald (q := 133) cx dX8_undo_132 rfl (by decide) rfl rfl (Nat.le_of_ble_eq_true rfl) (fun g44 g45 => ?_)
        refine G_iast (q := 134) cx dX8_undo_133 rfl (by decide) rfl rfl (Nat.le_of_ble_eq_true rfl) (fun g46 g47 => ?_)
        refine G_aload_n (q := 135) cx dX8_undo_134 rfl rfl ?_
        refine G_getr (q := 138) (g := 25) (i' := 0) cx dX8_undo_135 rfl cf_8 fl_RX8_38 (Nat.le_of_ble_eq_true rfl) rfl rfl (Nat.le_of_ble_eq_true rfl) ?_
        refine G_iload_n (q := 139) cx dX8_undo_138 rfl rfl ?_
        refine G_aload_n (q := 140) cx dX8_undo_139 rfl rfl ?_
        refine G_getr (q := 143) (g := 45) (i' := 0) cx dX8_undo_140 rfl cf_8 fl_RX8_187 (Nat.le_of_ble_eq_true rfl) rfl rfl (Nat.le_of_ble_eq_true rfl) ?_
        refine G_iload_n (q := 144) cx dX8_undo_143 rfl rfl ?_
        refine G_iald (q := 145) cx dX8_undo_144 rfl (by decide) rfl rfl (Nat.le_of_ble_eq_true rfl) (fun g48 g49 => ?_)
        refine G_iast (q := 146) cx dX8_undo_145 rfl (by decide) rfl rfl (Nat.le_of_ble_eq_true rfl) (fun g50 g51 => ?_)
        refine G_iinc (q := 149) (j := 0) (v := x1_2 + 1) (ls' := [(1, .int (x1_2 + 1)), (0, .ref (ad 8 0))]) cx dX8_undo_146 rfl rfl rfl (Nat.le_of_ble_eq_true rfl) rfl ?_
        refine G_goto (t := 92) cx dX8_undo_149 (by decide) ?_
        exact G_loc [0, 1] rfl (ih_2 (x1_2 + 1) (sI (sI (sI (sI S_2 22 0 x1_2.toNatClampNeg (gI S_2 42 0 x1_2.toNatClampNeg)) 23 0 x1_2.toNatClampNeg (gI (sI S_2 22 0 x1_2.toNatClampNeg (gI S_2 42 0 x1_2.toNatClampNeg)) 43 0 x1_2.toNatClampNeg)) 24 0 x1_2.toNatClampNeg (gI (sI (sI S_2 22 0 x1_2.toNatClampNeg (gI S_2 42 0 x1_2.toNatClampNeg)) 23 0 x1_2.toNatClampNeg (gI (sI S_2 22 0 x1_2.toNatClampNeg (gI S_2 42 0 x1_2.toNatClampNeg)) 43 0 x1_2.toNatClampNeg)) 44 0 x1_2.toNatClampNeg)) 25 0 x1_2.toNatClampNeg (gI (sI (sI (sI S_2 22 0 x1_2.toNatClampNeg (gI S_2 42 0 x1_2.toNatClampNeg)) 23 0 x1_2.toNatClampNeg (gI (sI S_2 22 0 x1_2.toNatClampNeg (gI S_2 42 0 x1_2.toNatClampNeg)) 43 0 x1_2.toNatClampNeg)) 24 0 x1_2.toNatClampNeg (gI (sI (sI S_2 22 0 x1_2.toNatClampNeg (gI S_2 42 0 x1_2.toNatClampNeg)) 23 0 x1_2.toNatClampNeg (gI (sI S_2 22 0 x1_2.toNatClampNeg (gI S_2 42 0 x1_2.toNatClampNeg)) 43 0 x1_2.toNatClampNeg)) 44 0 x1_2.toNatClampNeg)) 45 0 x1_2.toNatClampNeg)))
    refine G_loc [0, 1] rfl (lp_2 _ (fun y1_2 T_2 => ?_) 1000 (0 : Int32) (sI (sI (sI (sI (sI (sI (sI (sI (sI (sI S 8 0 12 (gI S 8 0 45)) 8 0 0 (gI (sI S 8 0 12 (gI S 8 0 45)) 8 0 46)) 8 0 1 (gI (sI (sI S 8 0 12 (gI S 8 0 45)) 8 0 0 (gI (sI S 8 0 12 (gI S 8 0 45)) 8 0 46)) 8 0 47)) 8 0 2 (gI (sI (sI (sI S 8 0 12 (gI S 8 0 45)) 8 0 0 (gI (sI S 8 0 12 (gI S 8 0 45)) 8 0 46)) 8 0 1 (gI (sI (sI S 8 0 12 (gI S 8 0 45)) 8 0 0 (gI (sI S 8 0 12 (gI S 8 0 45)) 8 0 46)) 8 0 47)) 8 0 48)) 8 0 3 (gI (sI (sI (sI (sI S 8 0 12 (gI S 8 0 45)) 8 0 0 (gI (sI S 8 0 12 (gI S 8 0 45)) 8 0 46)) 8 0 1 (gI (sI (sI S 8 0 12 (gI S 8 0 45)) 8 0 0 (gI (sI S 8 0 12 (gI S 8 0 45)) 8 0 46)) 8 0 47)) 8 0 2 (gI (sI (sI (sI S 8 0 12 (gI S 8 0 45)) 8 0 0 (gI (sI S 8 0 12 (gI S 8 0 45)) 8 0 46)) 8 0 1 (gI (sI (sI S 8 0 12 (gI S 8 0 45)) 8 0 0 (gI (sI S 8 0 12 (gI S 8 0 45)) 8 0 46)) 8 0 47)) 8 0 48)) 8 0 49)) 8 0 4 (gI (sI (sI (sI (sI (sI S 8 0 12 (gI S 8 0 45)) 8 0 0 (gI (sI S 8 0 12 (gI S 8 0 45)) 8 0 46)) 8 0 1 (gI (sI (sI S 8 0 12 (gI S 8 0 45)) 8 0 0 (gI (sI S 8 0 12 (gI S 8 0 45)) 8 0 46)) 8 0 47)) 8 0 2 (gI (sI (sI (sI S 8 0 12 (gI S 8 0 45)) 8 0 0 (gI (sI S 8 0 12 (gI S 8 0 45)) 8 0 46)) 8 0 1 (gI (sI (sI S 8 0 12 (gI S 8 0 45)) 8 0 0 (gI (sI S 8 0 12 (gI S 8 0 45)) 8 0 46)) 8 0 47)) 8 0 48)) 8 0 3 (gI (sI (sI (sI (sI S 8 0 12 (gI S 8 0 45)) 8 0 0 (gI (sI S 8 0 12 (gI S 8 0 45)) 8 0 46)) 8 0 1 (gI (sI (sI S 8 0 12 (gI S 8 0 45)) 8 0 0 (gI (sI S 8 0 12 (gI S 8 0 45)) 8 0 46)) 8 0 47)) 8 0 2 (gI (sI (sI (sI S 8 0 12 (gI S 8 0 45)) 8 0 0 (gI (sI S 8 0 12 (gI S 8 0 45)) 8 0 46)) 8 0 1 (gI (sI (sI S 8 0 12 (gI S 8 0 45)) 8 0 0 (gI (sI S 8 0 12 (gI S 8 0 45)) 8 0 46)) 8 0 47)) 8 0 48)) 8 0 49)) 8 0 50)) 8 0 5 (gI (sI (sI (sI (sI (sI (sI S 8 0 12 (gI S 8 0 45)) 8 0 0 (gI (sI S 8 0 12 (gI S 8 0 45)) 8 0 46)) 8 0 1 (gI (sI (sI S 8 0 12 (gI S 8 0 45)) 8 0 0 (gI (sI S 8 0 12 (gI S 8 0 45)) 8 0 46)) 8 0 47)) 8 0 2 (gI (sI (sI (sI S 8 0 12 (gI S 8 0 45)) 8 0 0 (gI (sI S 8 0 12 (gI S 8 0 45)) 8 0 46)) 8 0 1 (gI (sI (sI S 8 0 12 (gI S 8 0 45)) 8 0 0 (gI (sI S 8 0 12 (gI S 8 0 45)) 8 0 46)) 8 0 47)) 8 0 48)) 8 0 3 (gI (sI (sI (sI (sI S 8 0 12 (gI S 8 0 45)) 8 0 0 (gI (sI S 8 0 12 (gI S 8 0 45)) 8 0 46)) 8 0 1 (gI (sI (sI S 8 0 12 (gI S 8 0 45)) 8 0 0 (gI (sI S 8 0 12 (gI S 8 0 45)) 8 0 46)) 8 0 47)) 8 0 2 (gI (sI (sI (sI S 8 0 12 (gI S 8 0 45)) 8 0 0 (gI (sI S 8 0 12 (gI S 8 0 45)) 8 0 46)) 8 0 1 (gI (sI (sI S 8 0 12 (gI S 8 0 45)) 8 0 0 (gI (sI S 8 0 12 (gI S 8 0 45)) 8 0 46)) 8 0 47)) 8 0 48)) 8 0 49)) 8 0 4 (gI (sI (sI (sI (sI (sI S 8 0 12 (gI S 8 0 45)) 8 0 0 (gI (sI S 8 0 12 (gI S 8 0 45)) 8 0 46)) 8 0 1 (gI (sI (sI S 8 0 12 (gI S 8 0 45)) 8 0 0 (gI (sI S 8 0 12 (gI S 8 0 45)) 8 0 46)) 8 0 47)) 8 0 2 (gI (sI (sI (sI S 8 0 12 (gI S 8 0 45)) 8 0 0 (gI (sI S 8 0 12 (gI S 8 0 45)) 8 0 46)) 8 0 1 (gI (sI (sI S 8 0 12 (gI S 8 0 45)) 8 0 0 (gI (sI S 8 0 12 (gI S 8 0 45)) 8 0 46)) 8 0 47)) 8 0 48)) 8 0 3 (gI (sI (sI (sI (sI S 8 0 12 (gI S 8 0 45)) 8 0 0 (gI (sI S 8 0 12 (gI S 8 0 45)) 8 0 46)) 8 0 1 (gI (sI (sI S 8 0 12 (gI S 8 0 45)) 8 0 0 (gI (sI S 8 0 12 (gI S 8 0 45)) 8 0 46)) 8 0 47)) 8 0 2 (gI (sI (sI (sI S 8 0 12 (gI S 8 0 45)) 8 0 0 (gI (sI S 8 0 12 (gI S 8 0 45)) 8 0 46)) 8 0 1 (gI (sI (sI S 8 0 12 (gI S 8 0 45)) 8 0 0 (gI (sI S 8 0 12 (gI S 8 0 45)) 8 0 46)) 8 0 47)) 8 0 48)) 8 0 49)) 8 0 50)) 8 0 51)) 8 0 36 (gI (sI (sI (sI (sI (sI (sI (sI S 8 0 12 (gI S 8 0 45)) 8 0 0 (gI (sI S 8 0 12 (gI S 8 0 45)) 8 0 46)) 8 0 1 (gI (sI (sI S 8 0 12 (gI S 8 0 45)) 8 0 0 (gI (sI S 8 0 12 (gI S 8 0 45)) 8 0 46)) 8 0 47)) 8 0 2 (gI (sI (sI (sI S 8 0 12 (gI S 8 0 45)) 8 0 0 (gI (sI S 8 0 12 (gI S 8 0 45)) 8 0 46)) 8 0 1 (gI (sI (sI S 8 0 12 (gI S 8 0 45)) 8 0 0 (gI (sI S 8 0 12 (gI S 8 0 45)) 8 0 46)) 8 0 47)) 8 0 48)) 8 0 3 (gI (sI (sI (sI (sI S 8 0 12 (gI S 8 0 45)) 8 0 0 (gI (sI S 8 0 12 (gI S 8 0 45)) 8 0 46)) 8 0 1 (gI (sI (sI S 8 0 12 (gI S 8 0 45)) 8 0 0 (gI (sI S 8 0 12 (gI S 8 0 45)) 8 0 46)) 8 0 47)) 8 0 2 (gI (sI (sI (sI S 8 0 12 (gI S 8 0 45)) 8 0 0 (gI (sI S 8 0 12 (gI S 8 0 45)) 8 0 46)) 8 0 1 (gI (sI (sI S 8 0 12 (gI S 8 0 45)) 8 0 0 (gI (sI S 8 0 12 (gI S 8 0 45)) 8 0 46)) 8 0 47)) 8 0 48)) 8 0 49)) 8 0 4 (gI (sI (sI (sI (sI (sI S 8 0 12 (gI S 8 0 45)) 8 0 0 (gI (sI S 8 0 12 (gI S 8 0 45)) 8 0 46)) 8 0 1 (gI (sI (sI S 8 0 12 (gI S 8 0 45)) 8 0 0 (gI (sI S 8 0 12 (gI S 8 0 45)) 8 0 46)) 8 0 47)) 8 0 2 (gI (sI (sI (sI S 8 0 12 (gI S 8 0 45)) 8 0 0 (gI (sI S 8 0 12 (gI S 8 0 45)) 8 0 46)) 8 0 1 (gI (sI (sI S 8 0 12 (gI S 8 0 45)) 8 0 0 (gI (sI S 8 0 12 (gI S 8 0 45)) 8 0 46)) 8 0 47)) 8 0 48)) 8 0 3 (gI (sI (sI (sI (sI S 8 0 12 (gI S 8 0 45)) 8 0 0 (gI (sI S 8 0 12 (gI S 8 0 45)) 8 0 46)) 8 0 1 (gI (sI (sI S 8 0 12 (gI S 8 0 45)) 8 0 0 (gI (sI S 8 0 12 (gI S 8 0 45)) 8 0 46)) 8 0 47)) 8 0 2 (gI (sI (sI (sI S 8 0 12 (gI S 8 0 45)) 8 0 0 (gI (sI S 8 0 12 (gI S 8 0 45)) 8 0 46)) 8 0 1 (gI (sI (sI S 8 0 12 (gI S 8 0 45)) 8 0 0 (gI (sI S 8 0 12 (gI S 8 0 45)) 8 0 46)) 8 0 47)) 8 0 48)) 8 0 49)) 8 0 50)) 8 0 5 (gI (sI (sI (sI (sI (sI (sI S 8 0 12 (gI S 8 0 45)) 8 0 0 (gI (sI S 8 0 12 (gI S 8 0 45)) 8 0 46)) 8 0 1 (gI (sI (sI S 8 0 12 (gI S 8 0 45)) 8 0 0 (gI (sI S 8 0 12 (gI S 8 0 45)) 8 0 46)) 8 0 47)) 8 0 2 (gI (sI (sI (sI S 8 0 12 (gI S 8 0 45)) 8 0 0 (gI (sI S 8 0 12 (gI S 8 0 45)) 8 0 46)) 8 0 1 (gI (sI (sI S 8 0 12 (gI S 8 0 45)) 8 0 0 (gI (sI S 8 0 12 (gI S 8 0 45)) 8 0 46)) 8 0 47)) 8 0 48)) 8 0 3 (gI (sI (sI (sI (sI S 8 0 12 (gI S 8 0 45)) 8 0 0 (gI (sI S 8 0 12 (gI S 8 0 45)) 8 0 46)) 8 0 1 (gI (sI (sI S 8 0 12 (gI S 8 0 45)) 8 0 0 (gI (sI S 8 0 12 (gI S 8 0 45)) 8 0 46)) 8 0 47)) 8 0 2 (gI (sI (sI (sI S 8 0 12 (gI S 8 0 45)) 8 0 0 (gI (sI S 8 0 12 (gI S 8 0 45)) 8 0 46)) 8 0 1 (gI (sI (sI S 8 0 12 (gI S 8 0 45)) 8 0 0 (gI (sI S 8 0 12 (gI S 8 0 45)) 8 0 46)) 8 0 47)) 8 0 48)) 8 0 49)) 8 0 4 (gI (sI (sI (sI (sI (sI S 8 0 12 (gI S 8 0 45)) 8 0 0 (gI (sI S 8 0 12 (gI S 8 0 45)) 8 0 46)) 8 0 1 (gI (sI (sI S 8 0 12 (gI S 8 0 45)) 8 0 0 (gI (sI S 8 0 12 (gI S 8 0 45)) 8 0 46)) 8 0 47)) 8 0 2 (gI (sI (sI (sI S 8 0 12 (gI S 8 0 45)) 8 0 0 (gI (sI S 8 0 12 (gI S 8 0 45)) 8 0 46)) 8 0 1 (gI (sI (sI S 8 0 12 (gI S 8 0 45)) 8 0 0 (gI (sI S 8 0 12 (gI S 8 0 45)) 8 0 46)) 8 0 47)) 8 0 48)) 8 0 3 (gI (sI (sI (sI (sI S 8 0 12 (gI S 8 0 45)) 8 0 0 (gI (sI S 8 0 12 (gI S 8 0 45)) 8 0 46)) 8 0 1 (gI (sI (sI S 8 0 12 (gI S 8 0 45)) 8 0 0 (gI (sI S 8 0 12 (gI S 8 0 45)) 8 0 46)) 8 0 47)) 8 0 2 (gI (sI (sI (sI S 8 0 12 (gI S 8 0 45)) 8 0 0 (gI (sI S 8 0 12 (gI S 8 0 45)) 8 0 46)) 8 0 1 (gI (sI (sI S 8 0 12 (gI S 8 0 45)) 8 0 0 (gI (sI S 8 0 12 (gI S 8 0 45)) 8 0 46)) 8 0 47)) 8 0 48)) 8 0 49)) 8 0 50)) 8 0 51)) 8 0 52)) 8 0 39 (gI (sI (sI (sI (sI (sI (sI (sI (sI S 8 0 12 (gI S 8 0 45)) 8 0 0 (gI (sI S 8 0 12 (gI S 8 0 45)) 8 0 46)) 8 0 1 (gI (sI (sI S 8 0 12 (gI S 8 0 45)) 8 0 0 (gI (sI S 8 0 12 (gI S 8 0 45)) 8 0 46)) 8 0 47)) 8 0 2 (gI (sI (sI (sI S 8 0 12 (gI S 8 0 45)) 8 0 0 (gI (sI S 8 0 12 (gI S 8 0 45)) 8 0 46)) 8 0 1 (gI (sI (sI S 8 0 12 (gI S 8 0 45)) 8 0 0 (gI (sI S 8 0 12 (gI S 8 0 45)) 8 0 46)) 8 0 47)) 8 0 48)) 8 0 3 (gI (sI (sI (sI (sI S 8 0 12 (gI S 8 0 45)) 8 0 0 (gI (sI S 8 0 12 (gI S 8 0 45)) 8 0 46)) 8 0 1 (gI (sI (sI S 8 0 12 (gI S 8 0 45)) 8 0 0 (gI (sI S 8 0 12 (gI S 8 0 45)) 8 0 46)) 8 0 47)) 8 0 2 (gI (sI (sI (sI S 8 0 12 (gI S 8 0 45)) 8 0 0 (gI (sI S 8 0 12 (gI S 8 0 45)) 8 0 46)) 8 0 1 (gI (sI (sI S 8 0 12 (gI S 8 0 45)) 8 0 0 (gI (sI S 8 0 12 (gI S 8 0 45)) 8 0 46)) 8 0 47)) 8 0 48)) 8 0 49)) 8 0 4 (gI (sI (sI (sI (sI (sI S 8 0 12 (gI S 8 0 45)) 8 0 0 (gI (sI S 8 0 12 (gI S 8 0 45)) 8 0 46)) 8 0 1 (gI (sI (sI S 8 0 12 (gI S 8 0 45)) 8 0 0 (gI (sI S 8 0 12 (gI S 8 0 45)) 8 0 46)) 8 0 47)) 8 0 2 (gI (sI (sI (sI S 8 0 12 (gI S 8 0 45)) 8 0 0 (gI (sI S 8 0 12 (gI S 8 0 45)) 8 0 46)) 8 0 1 (gI (sI (sI S 8 0 12 (gI S 8 0 45)) 8 0 0 (gI (sI S 8 0 12 (gI S 8 0 45)) 8 0 46)) 8 0 47)) 8 0 48)) 8 0 3 (gI (sI (sI (sI (sI S 8 0 12 (gI S 8 0 45)) 8 0 0 (gI (sI S 8 0 12 (gI S 8 0 45)) 8 0 46)) 8 0 1 (gI (sI (sI S 8 0 12 (gI S 8 0 45)) 8 0 0 (gI (sI S 8 0 12 (gI S 8 0 45)) 8 0 46)) 8 0 47)) 8 0 2 (gI (sI (sI (sI S 8 0 12 (gI S 8 0 45)) 8 0 0 (gI (sI S 8 0 12 (gI S 8 0 45)) 8 0 46)) 8 0 1 (gI (sI (sI S 8 0 12 (gI S 8 0 45)) 8 0 0 (gI (sI S 8 0 12 (gI S 8 0 45)) 8 0 46)) 8 0 47)) 8 0 48)) 8 0 49)) 8 0 50)) 8 0 5 (gI (sI (sI (sI (sI (sI (sI S 8 0 12 (gI S 8 0 45)) 8 0 0 (gI (sI S 8 0 12 (gI S 8 0 45)) 8 0 46)) 8 0 1 (gI (sI (sI S 8 0 12 (gI S 8 0 45)) 8 0 0 (gI (sI S 8 0 12 (gI S 8 0 45)) 8 0 46)) 8 0 47)) 8 0 2 (gI (sI (sI (sI S 8 0 12 (gI S 8 0 45)) 8 0 0 (gI (sI S 8 0 12 (gI S 8 0 45)) 8 0 46)) 8 0 1 (gI (sI (sI S 8 0 12 (gI S 8 0 45)) 8 0 0 (gI (sI S 8 0 12 (gI S 8 0 45)) 8 0 46)) 8 0 47)) 8 0 48)) 8 0 3 (gI (sI (sI (sI (sI S 8 0 12 (gI S 8 0 45)) 8 0 0 (gI (sI S 8 0 12 (gI S 8 0 45)) 8 0 46)) 8 0 1 (gI (sI (sI S 8 0 12 (gI S 8 0 45)) 8 0 0 (gI (sI S 8 0 12 (gI S 8 0 45)) 8 0 46)) 8 0 47)) 8 0 2 (gI (sI (sI (sI S 8 0 12 (gI S 8 0 45)) 8 0 0 (gI (sI S 8 0 12 (gI S 8 0 45)) 8 0 46)) 8 0 1 (gI (sI (sI S 8 0 12 (gI S 8 0 45)) 8 0 0 (gI (sI S 8 0 12 (gI S 8 0 45)) 8 0 46)) 8 0 47)) 8 0 48)) 8 0 49)) 8 0 4 (gI (sI (sI (sI (sI (sI S 8 0 12 (gI S 8 0 45)) 8 0 0 (gI (sI S 8 0 12 (gI S 8 0 45)) 8 0 46)) 8 0 1 (gI (sI (sI S 8 0 12 (gI S 8 0 45)) 8 0 0 (gI (sI S 8 0 12 (gI S 8 0 45)) 8 0 46)) 8 0 47)) 8 0 2 (gI (sI (sI (sI S 8 0 12 (gI S 8 0 45)) 8 0 0 (gI (sI S 8 0 12 (gI S 8 0 45)) 8 0 46)) 8 0 1 (gI (sI (sI S 8 0 12 (gI S 8 0 45)) 8 0 0 (gI (sI S 8 0 12 (gI S 8 0 45)) 8 0 46)) 8 0 47)) 8 0 48)) 8 0 3 (gI (sI (sI (sI (sI S 8 0 12 (gI S 8 0 45)) 8 0 0 (gI (sI S 8 0 12 (gI S 8 0 45)) 8 0 46)) 8 0 1 (gI (sI (sI S 8 0 12 (gI S 8 0 45)) 8 0 0 (gI (sI S 8 0 12 (gI S 8 0 45)) 8 0 46)) 8 0 47)) 8 0 2 (gI (sI (sI (sI S 8 0 12 (gI S 8 0 45)) 8 0 0 (gI (sI S 8 0 12 (gI S 8 0 45)) 8 0 46)) 8 0 1 (gI (sI (sI S 8 0 12 (gI S 8 0 45)) 8 0 0 (gI (sI S 8 0 12 (gI S 8 0 45)) 8 0 46)) 8 0 47)) 8 0 48)) 8 0 49)) 8 0 50)) 8 0 51)) 8 0 36 (gI (sI (sI (sI (sI (sI (sI (sI S 8 0 12 (gI S 8 0 45)) 8 0 0 (gI (sI S 8 0 12 (gI S 8 0 45)) 8 0 46)) 8 0 1 (gI (sI (sI S 8 0 12 (gI S 8 0 45)) 8 0 0 (gI (sI S 8 0 12 (gI S 8 0 45)) 8 0 46)) 8 0 47)) 8 0 2 (gI (sI (sI (sI S 8 0 12 (gI S 8 0 45)) 8 0 0 (gI (sI S 8 0 12 (gI S 8 0 45)) 8 0 46)) 8 0 1 (gI (sI (sI S 8 0 12 (gI S 8 0 45)) 8 0 0 (gI (sI S 8 0 12 (gI S 8 0 45)) 8 0 46)) 8 0 47)) 8 0 48)) 8 0 3 (gI (sI (sI (sI (sI S 8 0 12 (gI S 8 0 45)) 8 0 0 (gI (sI S 8 0 12 (gI S 8 0 45)) 8 0 46)) 8 0 1 (gI (sI (sI S 8 0 12 (gI S 8 0 45)) 8 0 0 (gI (sI S 8 0 12 (gI S 8 0 45)) 8 0 46)) 8 0 47)) 8 0 2 (gI (sI (sI (sI S 8 0 12 (gI S 8 0 45)) 8 0 0 (gI (sI S 8 0 12 (gI S 8 0 45)) 8 0 46)) 8 0 1 (gI (sI (sI S 8 0 12 (gI S 8 0 45)) 8 0 0 (gI (sI S 8 0 12 (gI S 8 0 45)) 8 0 46)) 8 0 47)) 8 0 48)) 8 0 49)) 8 0 4 (gI (sI (sI (sI (sI (sI S 8 0 12 (gI S 8 0 45)) 8 0 0 (gI (sI S 8 0 12 (gI S 8 0 45)) 8 0 46)) 8 0 1 (gI (sI (sI S 8 0 12 (gI S 8 0 45)) 8 0 0 (gI (sI S 8 0 12 (gI S 8 0 45)) 8 0 46)) 8 0 47)) 8 0 2 (gI (sI (sI (sI S 8 0 12 (gI S 8 0 45)) 8 0 0 (gI (sI S 8 0 12 (gI S 8 0 45)) 8 0 46)) 8 0 1 (gI (sI (sI S 8 0 12 (gI S 8 0 45)) 8 0 0 (gI (sI S 8 0 12 (gI S 8 0 45)) 8 0 46)) 8 0 47)) 8 0 48)) 8 0 3 (gI (sI (sI (sI (sI S 8 0 12 (gI S 8 0 45)) 8 0 0 (gI (sI S 8 0 12 (gI S 8 0 45)) 8 0 46)) 8 0 1 (gI (sI (sI S 8 0 12 (gI S 8 0 45)) 8 0 0 (gI (sI S 8 0 12 (gI S 8 0 45)) 8 0 46)) 8 0 47)) 8 0 2 (gI (sI (sI (sI S 8 0 12 (gI S 8 0 45)) 8 0 0 (gI (sI S 8 0 12 (gI S 8 0 45)) 8 0 46)) 8 0 1 (gI (sI (sI S 8 0 12 (gI S 8 0 45)) 8 0 0 (gI (sI S 8 0 12 (gI S 8 0 45)) 8 0 46)) 8 0 47)) 8 0 48)) 8 0 49)) 8 0 50)) 8 0 5 (gI (sI (sI (sI (sI (sI (sI S 8 0 12 (gI S 8 0 45)) 8 0 0 (gI (sI S 8 0 12 (gI S 8 0 45)) 8 0 46)) 8 0 1 (gI (sI (sI S 8 0 12 (gI S 8 0 45)) 8 0 0 (gI (sI S 8 0 12 (gI S 8 0 45)) 8 0 46)) 8 0 47)) 8 0 2 (gI (sI (sI (sI S 8 0 12 (gI S 8 0 45)) 8 0 0 (gI (sI S 8 0 12 (gI S 8 0 45)) 8 0 46)) 8 0 1 (gI (sI (sI S 8 0 12 (gI S 8 0 45)) 8 0 0 (gI (sI S 8 0 12 (gI S 8 0 45)) 8 0 46)) 8 0 47)) 8 0 48)) 8 0 3 (gI (sI (sI (sI (sI S 8 0 12 (gI S 8 0 45)) 8 0 0 (gI (sI S 8 0 12 (gI S 8 0 45)) 8 0 46)) 8 0 1 (gI (sI (sI S 8 0 12 (gI S 8 0 45)) 8 0 0 (gI (sI S 8 0 12 (gI S 8 0 45)) 8 0 46)) 8 0 47)) 8 0 2 (gI (sI (sI (sI S 8 0 12 (gI S 8 0 45)) 8 0 0 (gI (sI S 8 0 12 (gI S 8 0 45)) 8 0 46)) 8 0 1 (gI (sI (sI S 8 0 12 (gI S 8 0 45)) 8 0 0 (gI (sI S 8 0 12 (gI S 8 0 45)) 8 0 46)) 8 0 47)) 8 0 48)) 8 0 49)) 8 0 4 (gI (sI (sI (sI (sI (sI S 8 0 12 (gI S 8 0 45)) 8 0 0 (gI (sI S 8 0 12 (gI S 8 0 45)) 8 0 46)) 8 0 1 (gI (sI (sI S 8 0 12 (gI S 8 0 45)) 8 0 0 (gI (sI S 8 0 12 (gI S 8 0 45)) 8 0 46)) 8 0 47)) 8 0 2 (gI (sI (sI (sI S 8 0 12 (gI S 8 0 45)) 8 0 0 (gI (sI S 8 0 12 (gI S 8 0 45)) 8 0 46)) 8 0 1 (gI (sI (sI S 8 0 12 (gI S 8 0 45)) 8 0 0 (gI (sI S 8 0 12 (gI S 8 0 45)) 8 0 46)) 8 0 47)) 8 0 48)) 8 0 3 (gI (sI (sI (sI (sI S 8 0 12 (gI S 8 0 45)) 8 0 0 (gI (sI S 8 0 12 (gI S 8 0 45)) 8 0 46)) 8 0 1 (gI (sI (sI S 8 0 12 (gI S 8 0 45)) 8 0 0 (gI (sI S 8 0 12 (gI S 8 0 45)) 8 0 46)) 8 0 47)) 8 0 2 (gI (sI (sI (sI S 8 0 12 (gI S 8 0 45)) 8 0 0 (gI (sI S 8 0 12 (gI S 8 0 45)) 8 0 46)) 8 0 1 (gI (sI (sI S 8 0 12 (gI S 8 0 45)) 8 0 0 (gI (sI S 8 0 12 (gI S 8 0 45)) 8 0 46)) 8 0 47)) 8 0 48)) 8 0 49)) 8 0 50)) 8 0 51)) 8 0 52)) 8 0 53)) 8 0 41 (gI (sI (sI (sI (sI (sI (sI (sI (sI (sI S 8 0 12 (gI S 8 0 45)) 8 0 0 (gI (sI S 8 0 12 (gI S 8 0 45)) 8 0 46)) 8 0 1 (gI (sI (sI S 8 0 12 (gI S 8 0 45)) 8 0 0 (gI (sI S 8 0 12 (gI S 8 0 45)) 8 0 46)) 8 0 47)) 8 0 2 (gI (sI (sI (sI S 8 0 12 (gI S 8 0 45)) 8 0 0 (gI (sI S 8 0 12 (gI S 8 0 45)) 8 0 46)) 8 0 1 (gI (sI (sI S 8 0 12 (gI S 8 0 45)) 8 0 0 (gI (sI S 8 0 12 (gI S 8 0 45)) 8 0 46)) 8 0 47)) 8 0 48)) 8 0 3 (gI (sI (sI (sI (sI S 8 0 12 (gI S 8 0 45)) 8 0 0 (gI (sI S 8 0 12 (gI S 8 0 45)) 8 0 46)) 8 0 1 (gI (sI (sI S 8 0 12 (gI S 8 0 45)) 8 0 0 (gI (sI S 8 0 12 (gI S 8 0 45)) 8 0 46)) 8 0 47)) 8 0 2 (gI (sI (sI (sI S 8 0 12 (gI S 8 0 45)) 8 0 0 (gI (sI S 8 0 12 (gI S 8 0 45)) 8 0 46)) 8 0 1 (gI (sI (sI S 8 0 12 (gI S 8 0 45)) 8 0 0 (gI (sI S 8 0 12 (gI S 8 0 45)) 8 0 46)) 8 0 47)) 8 0 48)) 8 0 49)) 8 0 4 (gI (sI (sI (sI (sI (sI S 8 0 12 (gI S 8 0 45)) 8 0 0 (gI (sI S 8 0 12 (gI S 8 0 45)) 8 0 46)) 8 0 1 (gI (sI (sI S 8 0 12 (gI S 8 0 45)) 8 0 0 (gI (sI S 8 0 12 (gI S 8 0 45)) 8 0 46)) 8 0 47)) 8 0 2 (gI (sI (sI (sI S 8 0 12 (gI S 8 0 45)) 8 0 0 (gI (sI S 8 0 12 (gI S 8 0 45)) 8 0 46)) 8 0 1 (gI (sI (sI S 8 0 12 (gI S 8 0 45)) 8 0 0 (gI (sI S 8 0 12 (gI S 8 0 45)) 8 0 46)) 8 0 47)) 8 0 48)) 8 0 3 (gI (sI (sI (sI (sI S 8 0 12 (gI S 8 0 45)) 8 0 0 (gI (sI S 8 0 12 (gI S 8 0 45)) 8 0 46)) 8 0 1 (gI (sI (sI S 8 0 12 (gI S 8 0 45)) 8 0 0 (gI (sI S 8 0 12 (gI S 8 0 45)) 8 0 46)) 8 0 47)) 8 0 2 (gI (sI (sI (sI S 8 0 12 (gI S 8 0 45)) 8 0 0 (gI (sI S 8 0 12 (gI S 8 0 45)) 8 0 46)) 8 0 1 (gI (sI (sI S 8 0 12 (gI S 8 0 45)) 8 0 0 (gI (sI S 8 0 12 (gI S 8 0 45)) 8 0 46)) 8 0 47)) 8 0 48)) 8 0 49)) 8 0 50)) 8 0 5 (gI (sI (sI (sI (sI (sI (sI S 8 0 12 (gI S 8 0 45)) 8 0 0 (gI (sI S 8 0 12 (gI S 8 0 45)) 8 0 46)) 8 0 1 (gI (sI (sI S 8 0 12 (gI S 8 0 45)) 8 0 0 (gI (sI S 8 0 12 (gI S 8 0 45)) 8 0 46)) 8 0 47)) 8 0 2 (gI (sI (sI (sI S 8 0 12 (gI S 8 0 45)) 8 0 0 (gI (sI S 8 0 12 (gI S 8 0 45)) 8 0 46)) 8 0 1 (gI (sI (sI S 8 0 12 (gI S 8 0 45)) 8 0 0 (gI (sI S 8 0 12 (gI S 8 0 45)) 8 0 46)) 8 0 47)) 8 0 48)) 8 0 3 (gI (sI (sI (sI (sI S 8 0 12 (gI S 8 0 45)) 8 0 0 (gI (sI S 8 0 12 (gI S 8 0 45)) 8 0 46)) 8 0 1 (gI (sI (sI S 8 0 12 (gI S 8 0 45)) 8 0 0 (gI (sI S 8 0 12 (gI S 8 0 45)) 8 0 46)) 8 0 47)) 8 0 2 (gI (sI (sI (sI S 8 0 12 (gI S 8 0 45)) 8 0 0 (gI (sI S 8 0 12 (gI S 8 0 45)) 8 0 46)) 8 0 1 (gI (sI (sI S 8 0 12 (gI S 8 0 45)) 8 0 0 (gI (sI S 8 0 12 (gI S 8 0 45)) 8 0 46)) 8 0 47)) 8 0 48)) 8 0 49)) 8 0 4 (gI (sI (sI (sI (sI (sI S 8 0 12 (gI S 8 0 45)) 8 0 0 (gI (sI S 8 0 12 (gI S 8 0 45)) 8 0 46)) 8 0 1 (gI (sI (sI S 8 0 12 (gI S 8 0 45)) 8 0 0 (gI (sI S 8 0 12 (gI S 8 0 45)) 8 0 46)) 8 0 47)) 8 0 2 (gI (sI (sI (sI S 8 0 12 (gI S 8 0 45)) 8 0 0 (gI (sI S 8 0 12 (gI S 8 0 45)) 8 0 46)) 8 0 1 (gI (sI (sI S 8 0 12 (gI S 8 0 45)) 8 0 0 (gI (sI S 8 0 12 (gI S 8 0 45)) 8 0 46)) 8 0 47)) 8 0 48)) 8 0 3 (gI (sI (sI (sI (sI S 8 0 12 (gI S 8 0 45)) 8 0 0 (gI (sI S 8 0 12 (gI S 8 0 45)) 8 0 46)) 8 0 1 (gI (sI (sI S 8 0 12 (gI S 8 0 45)) 8 0 0 (gI (sI S 8 0 12 (gI S 8 0 45)) 8 0 46)) 8 0 47)) 8 0 2 (gI (sI (sI (sI S 8 0 12 (gI S 8 0 45)) 8 0 0 (gI (sI S 8 0 12 (gI S 8 0 45)) 8 0 46)) 8 0 1 (gI (sI (sI S 8 0 12 (gI S 8 0 45)) 8 0 0 (gI (sI S 8 0 12 (gI S 8 0 45)) 8 0 46)) 8 0 47)) 8 0 48)) 8 0 49)) 8 0 50)) 8 0 51)) 8 0 36 (gI (sI (sI (sI (sI (sI (sI (sI S 8 0 12 (gI S 8 0 45)) 8 0 0 (gI (sI S 8 0 12 (gI S 8 0 45)) 8 0 46)) 8 0 1 (gI (sI (sI S 8 0 12 (gI S 8 0 45)) 8 0 0 (gI (sI S 8 0 12 (gI S 8 0 45)) 8 0 46)) 8 0 47)) 8 0 2 (gI (sI (sI (sI S 8 0 12 (gI S 8 0 45)) 8 0 0 (gI (sI S 8 0 12 (gI S 8 0 45)) 8 0 46)) 8 0 1 (gI (sI (sI S 8 0 12 (gI S 8 0 45)) 8 0 0 (gI (sI S 8 0 12 (gI S 8 0 45)) 8 0 46)) 8 0 47)) 8 0 48)) 8 0 3 (gI (sI (sI (sI (sI S 8 0 12 (gI S 8 0 45)) 8 0 0 (gI (sI S 8 0 12 (gI S 8 0 45)) 8 0 46)) 8 0 1 (gI (sI (sI S 8 0 12 (gI S 8 0 45)) 8 0 0 (gI (sI S 8 0 12 (gI S 8 0 45)) 8 0 46)) 8 0 47)) 8 0 2 (gI (sI (sI (sI S 8 0 12 (gI S 8 0 45)) 8 0 0 (gI (sI S 8 0 12 (gI S 8 0 45)) 8 0 46)) 8 0 1 (gI (sI (sI S 8 0 12 (gI S 8 0 45)) 8 0 0 (gI (sI S 8 0 12 (gI S 8 0 45)) 8 0 46)) 8 0 47)) 8 0 48)) 8 0 49)) 8 0 4 (gI (sI (sI (sI (sI (sI S 8 0 12 (gI S 8 0 45)) 8 0 0 (gI (sI S 8 0 12 (gI S 8 0 45)) 8 0 46)) 8 0 1 (gI (sI (sI S 8 0 12 (gI S 8 0 45)) 8 0 0 (gI (sI S 8 0 12 (gI S 8 0 45)) 8 0 46)) 8 0 47)) 8 0 2 (gI (sI (sI (sI S 8 0 12 (gI S 8 0 45)) 8 0 0 (gI (sI S 8 0 12 (gI S 8 0 45)) 8 0 46)) 8 0 1 (gI (sI (sI S 8 0 12 (gI S 8 0 45)) 8 0 0 (gI (sI S 8 0 12 (gI S 8 0 45)) 8 0 46)) 8 0 47)) 8 0 48)) 8 0 3 (gI (sI (sI (sI (sI S 8 0 12 (gI S 8 0 45)) 8 0 0 (gI (sI S 8 0 12 (gI S 8 0 45)) 8 0 46)) 8 0 1 (gI (sI (sI S 8 0 12 (gI S 8 0 45)) 8 0 0 (gI (sI S 8 0 12 (gI S 8 0 45)) 8 0 46)) 8 0 47)) 8 0 2 (gI (sI (sI (sI S 8 0 12 (gI S 8 0 45)) 8 0 0 (gI (sI S 8 0 12 (gI S 8 0 45)) 8 0 46)) 8 0 1 (gI (sI (sI S 8 0 12 (gI S 8 0 45)) 8 0 0 (gI (sI S 8 0 12 (gI S 8 0 45)) 8 0 46)) 8 0 47)) 8 0 48)) 8 0 49)) 8 0 50)) 8 0 5 (gI (sI (sI (sI (sI (sI (sI S 8 0 12 (gI S 8 0 45)) 8 0 0 (gI (sI S 8 0 12 (gI S 8 0 45)) 8 0 46)) 8 0 1 (gI (sI (sI S 8 0 12 (gI S 8 0 45)) 8 0 0 (gI (sI S 8 0 12 (gI S 8 0 45)) 8 0 46)) 8 0 47)) 8 0 2 (gI (sI (sI (sI S 8 0 12 (gI S 8 0 45)) 8 0 0 (gI (sI S 8 0 12 (gI S 8 0 45)) 8 0 46)) 8 0 1 (gI (sI (sI S 8 0 12 (gI S 8 0 45)) 8 0 0 (gI (sI S 8 0 12 (gI S 8 0 45)) 8 0 46)) 8 0 47)) 8 0 48)) 8 0 3 (gI (sI (sI (sI (sI S 8 0 12 (gI S 8 0 45)) 8 0 0 (gI (sI S 8 0 12 (gI S 8 0 45)) 8 0 46)) 8 0 1 (gI (sI (sI S 8 0 12 (gI S 8 0 45)) 8 0 0 (gI (sI S 8 0 12 (gI S 8 0 45)) 8 0 46)) 8 0 47)) 8 0 2 (gI (sI (sI (sI S 8 0 12 (gI S 8 0 45)) 8 0 0 (gI (sI S 8 0 12 (gI S 8 0 45)) 8 0 46)) 8 0 1 (gI (sI (sI S 8 0 12 (gI S 8 0 45)) 8 0 0 (gI (sI S 8 0 12 (gI S 8 0 45)) 8 0 46)) 8 0 47)) 8 0 48)) 8 0 49)) 8 0 4 (gI (sI (sI (sI (sI (sI S 8 0 12 (gI S 8 0 45)) 8 0 0 (gI (sI S 8 0 12 (gI S 8 0 45)) 8 0 46)) 8 0 1 (gI (sI (sI S 8 0 12 (gI S 8 0 45)) 8 0 0 (gI (sI S 8 0 12 (gI S 8 0 45)) 8 0 46)) 8 0 47)) 8 0 2 (gI (sI (sI (sI S 8 0 12 (gI S 8 0 45)) 8 0 0 (gI (sI S 8 0 12 (gI S 8 0 45)) 8 0 46)) 8 0 1 (gI (sI (sI S 8 0 12 (gI S 8 0 45)) 8 0 0 (gI (sI S 8 0 12 (gI S 8 0 45)) 8 0 46)) 8 0 47)) 8 0 48)) 8 0 3 (gI (sI (sI (sI (sI S 8 0 12 (gI S 8 0 45)) 8 0 0 (gI (sI S 8 0 12 (gI S 8 0 45)) 8 0 46)) 8 0 1 (gI (sI (sI S 8 0 12 (gI S 8 0 45)) 8 0 0 (gI (sI S 8 0 12 (gI S 8 0 45)) 8 0 46)) 8 0 47)) 8 0 2 (gI (sI (sI (sI S 8 0 12 (gI S 8 0 45)) 8 0 0 (gI (sI S 8 0 12 (gI S 8 0 45)) 8 0 46)) 8 0 1 (gI (sI (sI S 8 0 12 (gI S 8 0 45)) 8 0 0 (gI (sI S 8 0 12 (gI S 8 0 45)) 8 0 46)) 8 0 47)) 8 0 48)) 8 0 49)) 8 0 50)) 8 0 51)) 8 0 52)) 8 0 39 (gI (sI (sI (sI (sI (sI (sI (sI (sI S 8 0 12 (gI S 8 0 45)) 8 0 0 (gI (sI S 8 0 12 (gI S 8 0 45)) 8 0 46)) 8 0 1 (gI (sI (sI S 8 0 12 (gI S 8 0 45)) 8 0 0 (gI (sI S 8 0 12 (gI S 8 0 45)) 8 0 46)) 8 0 47)) 8 0 2 (gI (sI (sI (sI S 8 0 12 (gI S 8 0 45)) 8 0 0 (gI (sI S 8 0 12 (gI S 8 0 45)) 8 0 46)) 8 0 1 (gI (sI (sI S 8 0 12 (gI S 8 0 45)) 8 0 0 (gI (sI S 8 0 12 (gI S 8 0 45)) 8 0 46)) 8 0 47)) 8 0 48)) 8 0 3 (gI (sI (sI (sI (sI S 8 0 12 (gI S 8 0 45)) 8 0 0 (gI (sI S 8 0 12 (gI S 8 0 45)) 8 0 46)) 8 0 1 (gI (sI (sI S 8 0 12 (gI S 8 0 45)) 8 0 0 (gI (sI S 8 0 12 (gI S 8 0 45)) 8 0 46)) 8 0 47)) 8 0 2 (gI (sI (sI (sI S 8 0 12 (gI S 8 0 45)) 8 0 0 (gI (sI S 8 0 12 (gI S 8 0 45)) 8 0 46)) 8 0 1 (gI (sI (sI S 8 0 12 (gI S 8 0 45)) 8 0 0 (gI (sI S 8 0 12 (gI S 8 0 45)) 8 0 46)) 8 0 47)) 8 0 48)) 8 0 49)) 8 0 4 (gI (sI (sI (sI (sI (sI S 8 0 12 (gI S 8 0 45)) 8 0 0 (gI (sI S 8 0 12 (gI S 8 0 45)) 8 0 46)) 8 0 1 (gI (sI (sI S 8 0 12 (gI S 8 0 45)) 8 0 0 (gI (sI S 8 0 12 (gI S 8 0 45)) 8 0 46)) 8 0 47)) 8 0 2 (gI (sI (sI (sI S 8 0 12 (gI S 8 0 45)) 8 0 0 (gI (sI S 8 0 12 (gI S 8 0 45)) 8 0 46)) 8 0 1 (gI (sI (sI S 8 0 12 (gI S 8 0 45)) 8 0 0 (gI (sI S 8 0 12 (gI S 8 0 45)) 8 0 46)) 8 0 47)) 8 0 48)) 8 0 3 (gI (sI (sI (sI (sI S 8 0 12 (gI S 8 0 45)) 8 0 0 (gI (sI S 8 0 12 (gI S 8 0 45)) 8 0 46)) 8 0 1 (gI (sI (sI S 8 0 12 (gI S 8 0 45)) 8 0 0 (gI (sI S 8 0 12 (gI S 8 0 45)) 8 0 46)) 8 0 47)) 8 0 2 (gI (sI (sI (sI S 8 0 12 (gI S 8 0 45)) 8 0 0 (gI (sI S 8 0 12 (gI S 8 0 45)) 8 0 46)) 8 0 1 (gI (sI (sI S 8 0 12 (gI S 8 0 45)) 8 0 0 (gI (sI S 8 0 12 (gI S 8 0 45)) 8 0 46)) 8 0 47)) 8 0 48)) 8 0 49)) 8 0 50)) 8 0 5 (gI (sI (sI (sI (sI (sI (sI S 8 0 12 (gI S 8 0 45)) 8 0 0 (gI (sI S 8 0 12 (gI S 8 0 45)) 8 0 46)) 8 0 1 (gI (sI (sI S 8 0 12 (gI S 8 0 45)) 8 0 0 (gI (sI S 8 0 12 (gI S 8 0 45)) 8 0 46)) 8 0 47)) 8 0 2 (gI (sI (sI (sI S 8 0 12 (gI S 8 0 45)) 8 0 0 (gI (sI S 8 0 12 (gI S 8 0 45)) 8 0 46)) 8 0 1 (gI (sI (sI S 8 0 12 (gI S 8 0 45)) 8 0 0 (gI (sI S 8 0 12 (gI S 8 0 45)) 8 0 46)) 8 0 47)) 8 0 48)) 8 0 3 (gI (sI (sI (sI (sI S 8 0 12 (gI S 8 0 45)) 8 0 0 (gI (sI S 8 0 12 (gI S 8 0 45)) 8 0 46)) 8 0 1 (gI (sI (sI S 8 0 12 (gI S 8 0 45)) 8 0 0 (gI (sI S 8 0 12 (gI S 8 0 45)) 8 0 46)) 8 0 47)) 8 0 2 (gI (sI (sI (sI S 8 0 12 (gI S 8 0 45)) 8 0 0 (gI (sI S 8 0 12 (gI S 8 0 45)) 8 0 46)) 8 0 1 (gI (sI (sI S 8 0 12 (gI S 8 0 45)) 8 0 0 (gI (sI S 8 0 12 (gI S 8 0 45)) 8 0 46)) 8 0 47)) 8 0 48)) 8 0 49)) 8 0 4 (gI (sI (sI (sI (sI (sI S 8 0 12 (gI S 8 0 45)) 8 0 0 (gI (sI S 8 0 12 (gI S 8 0 45)) 8 0 46)) 8 0 1 (gI (sI (sI S 8 0 12 (gI S 8 0 45)) 8 0 0 (gI (sI S 8 0 12 (gI S 8 0 45)) 8 0 46)) 8 0 47)) 8 0 2 (gI (sI (sI (sI S 8 0 12 (gI S 8 0 45)) 8 0 0 (gI (sI S 8 0 12 (gI S 8 0 45)) 8 0 46)) 8 0 1 (gI (sI (sI S 8 0 12 (gI S 8 0 45)) 8 0 0 (gI (sI S 8 0 12 (gI S 8 0 45)) 8 0 46)) 8 0 47)) 8 0 48)) 8 0 3 (gI (sI (sI (sI (sI S 8 0 12 (gI S 8 0 45)) 8 0 0 (gI (sI S 8 0 12 (gI S 8 0 45)) 8 0 46)) 8 0 1 (gI (sI (sI S 8 0 12 (gI S 8 0 45)) 8 0 0 (gI (sI S 8 0 12 (gI S 8 0 45)) 8 0 46)) 8 0 47)) 8 0 2 (gI (sI (sI (sI S 8 0 12 (gI S 8 0 45)) 8 0 0 (gI (sI S 8 0 12 (gI S 8 0 45)) 8 0 46)) 8 0 1 (gI (sI (sI S 8 0 12 (gI S 8 0 45)) 8 0 0 (gI (sI S 8 0 12 (gI S 8 0 45)) 8 0 46)) 8 0 47)) 8 0 48)) 8 0 49)) 8 0 50)) 8 0 51)) 8 0 36 (gI (sI (sI (sI (sI (sI (sI (sI S 8 0 12 (gI S 8 0 45)) 8 0 0 (gI (sI S 8 0 12 (gI S 8 0 45)) 8 0 46)) 8 0 1 (gI (sI (sI S 8 0 12 (gI S 8 0 45)) 8 0 0 (gI (sI S 8 0 12 (gI S 8 0 45)) 8 0 46)) 8 0 47)) 8 0 2 (gI (sI (sI (sI S 8 0 12 (gI S 8 0 45)) 8 0 0 (gI (sI S 8 0 12 (gI S 8 0 45)) 8 0 46)) 8 0 1 (gI (sI (sI S 8 0 12 (gI S 8 0 45)) 8 0 0 (gI (sI S 8 0 12 (gI S 8 0 45)) 8 0 46)) 8 0 47)) 8 0 48)) 8 0 3 (gI (sI (sI (sI (sI S 8 0 12 (gI S 8 0 45)) 8 0 0 (gI (sI S 8 0 12 (gI S 8 0 45)) 8 0 46)) 8 0 1 (gI (sI (sI S 8 0 12 (gI S 8 0 45)) 8 0 0 (gI (sI S 8 0 12 (gI S 8 0 45)) 8 0 46)) 8 0 47)) 8 0 2 (gI (sI (sI (sI S 8 0 12 (gI S 8 0 45)) 8 0 0 (gI (sI S 8 0 12 (gI S 8 0 45)) 8 0 46)) 8 0 1 (gI (sI (sI S 8 0 12 (gI S 8 0 45)) 8 0 0 (gI (sI S 8 0 12 (gI S 8 0 45)) 8 0 46)) 8 0 47)) 8 0 48)) 8 0 49)) 8 0 4 (gI (sI (sI (sI (sI (sI S 8 0 12 (gI S 8 0 45)) 8 0 0 (gI (sI S 8 0 12 (gI S 8 0 45)) 8 0 46)) 8 0 1 (gI (sI (sI S 8 0 12 (gI S 8 0 45)) 8 0 0 (gI (sI S 8 0 12 (gI S 8 0 45)) 8 0 46)) 8 0 47)) 8 0 2 (gI (sI (sI (sI S 8 0 12 (gI S 8 0 45)) 8 0 0 (gI (sI S 8 0 12 (gI S 8 0 45)) 8 0 46)) 8 0 1 (gI (sI (sI S 8 0 12 (gI S 8 0 45)) 8 0 0 (gI (sI S 8 0 12 (gI S 8 0 45)) 8 0 46)) 8 0 47)) 8 0 48)) 8 0 3 (gI (sI (sI (sI (sI S 8 0 12 (gI S 8 0 45)) 8 0 0 (gI (sI S 8 0 12 (gI S 8 0 45)) 8 0 46)) 8 0 1 (gI (sI (sI S 8 0 12 (gI S 8 0 45)) 8 0 0 (gI (sI S 8 0 12 (gI S 8 0 45)) 8 0 46)) 8 0 47)) 8 0 2 (gI (sI (sI (sI S 8 0 12 (gI S 8 0 45)) 8 0 0 (gI (sI S 8 0 12 (gI S 8 0 45)) 8 0 46)) 8 0 1 (gI (sI (sI S 8 0 12 (gI S 8 0 45)) 8 0 0 (gI (sI S 8 0 12 (gI S 8 0 45)) 8 0 46)) 8 0 47)) 8 0 48)) 8 0 49)) 8 0 50)) 8 0 5 (gI (sI (sI (sI (sI (sI (sI S 8 0 12 (gI S 8 0 45)) 8 0 0 (gI (sI S 8 0 12 (gI S 8 0 45)) 8 0 46)) 8 0 1 (gI (sI (sI S 8 0 12 (gI S 8 0 45)) 8 0 0 (gI (sI S 8 0 12 (gI S 8 0 45)) 8 0 46)) 8 0 47)) 8 0 2 (gI (sI (sI (sI S 8 0 12 (gI S 8 0 45)) 8 0 0 (gI (sI S 8 0 12 (gI S 8 0 45)) 8 0 46)) 8 0 1 (gI (sI (sI S 8 0 12 (gI S 8 0 45)) 8 0 0 (gI (sI S 8 0 12 (gI S 8 0 45)) 8 0 46)) 8 0 47)) 8 0 48)) 8 0 3 (gI (sI (sI (sI (sI S 8 0 12 (gI S 8 0 45)) 8 0 0 (gI (sI S 8 0 12 (gI S 8 0 45)) 8 0 46)) 8 0 1 (gI (sI (sI S 8 0 12 (gI S 8 0 45)) 8 0 0 (gI (sI S 8 0 12 (gI S 8 0 45)) 8 0 46)) 8 0 47)) 8 0 2 (gI (sI (sI (sI S 8 0 12 (gI S 8 0 45)) 8 0 0 (gI (sI S 8 0 12 (gI S 8 0 45)) 8 0 46)) 8 0 1 (gI (sI (sI S 8 0 12 (gI S 8 0 45)) 8 0 0 (gI (sI S 8 0 12 (gI S 8 0 45)) 8 0 46)) 8 0 47)) 8 0 48)) 8 0 49)) 8 0 4 (gI (sI (sI (sI (sI (sI S 8 0 12 (gI S 8 0 45)) 8 0 0 (gI (sI S 8 0 12 (gI S 8 0 45)) 8 0 46)) 8 0 1 (gI (sI (sI S 8 0 12 (gI S 8 0 45)) 8 0 0 (gI (sI S 8 0 12 (gI S 8 0 45)) 8 0 46)) 8 0 47)) 8 0 2 (gI (sI (sI (sI S 8 0 12 (gI S 8 0 45)) 8 0 0 (gI (sI S 8 0 12 (gI S 8 0 45)) 8 0 46)) 8 0 1 (gI (sI (sI S 8 0 12 (gI S 8 0 45)) 8 0 0 (gI (sI S 8 0 12 (gI S 8 0 45)) 8 0 46)) 8 0 47)) 8 0 48)) 8 0 3 (gI (sI (sI (sI (sI S 8 0 12 (gI S 8 0 45)) 8 0 0 (gI (sI S 8 0 12 (gI S 8 0 45)) 8 0 46)) 8 0 1 (gI (sI (sI S 8 0 12 (gI S 8 0 45)) 8 0 0 (gI (sI S 8 0 12 (gI S 8 0 45)) 8 0 46)) 8 0 47)) 8 0 2 (gI (sI (sI (sI S 8 0 12 (gI S 8 0 45)) 8 0 0 (gI (sI S 8 0 12 (gI S 8 0 45)) 8 0 46)) 8 0 1 (gI (sI (sI S 8 0 12 (gI S 8 0 45)) 8 0 0 (gI (sI S 8 0 12 (gI S 8 0 45)) 8 0 46)) 8 0 47)) 8 0 48)) 8 0 49)) 8 0 50)) 8 0 51)) 8 0 52)) 8 0 53)) 8 0 54)))
    refine G_iconst (q := 153) (v := (0 : Int32)) cx dX8_undo_152 rfl (by decide) ?_
    refine G_istore_n (q := 154) (ls' := [(1, .int (0 : Int32)), (0, .ref (ad 8 0))]) cx dX8_undo_153 rfl rfl (Nat.le_of_ble_eq_true rfl) rfl ?_
    have lp_3 : ∀ (K_3 : Int32 → St → Option (Int32 × St)) (hK_3 : ∀ (y1_3 : Int32) (T_3 : St), TG p l e 0 s m ([.ref (ad 8 0)] : List Value).toArray below meth c D cy ad nM toI okT T_3 178 [(1, .int y1_3), (0, .ref (ad 8 0))] [] (K_3 y1_3 T_3)), ∀ (n_3 : Nat) (x1_3 : Int32) (S_3 : St), TG p l e 0 s m ([.ref (ad 8 0)] : List Value).toArray below meth c D cy ad nM toI okT S_3 154 [(1, .int x1_3), (0, .ref (ad 8 0))] [] (L_X8_undo_154 K_3 n_3 x1_3 S_3) := by
      intro K_3 hK_3 n_3
      induction n_3 with
      | zero => intros; exact G_none
      | succ n_3 ih_3 =>
        intro x1_3 S_3
        rw [L_X8_undo_154.eq_2]
        refine G_iload_n (q := 155) cx dX8_undo_154 rfl rfl ?_
        refine G_bipush (q := 157) (v := (24 : Int32)) cx dX8_undo_155 rfl (by decide) ?_
        refine G_icmp_ge (q := 160) (t := 178) cx dX8_undo_157 rfl (by decide) (fun c30 => ?_) (fun c30 => ?_)
        · exact G_loc [0, 1] rfl (hK_3 x1_3 S_3)
        refine G_aload_n (q := 161) cx dX8_undo_160 rfl rfl ?_
        refine G_getr (q := 164) (g := 26) (i' := 0) cx dX8_undo_161 rfl cf_8 fl_RX8_41 (Nat.le_of_ble_eq_true rfl) rfl rfl (Nat.le_of_ble_eq_true rfl) ?_
        refine G_iload_n (q := 165) cx dX8_undo_164 rfl rfl ?_
        refine G_aload_n (q := 166) cx dX8_undo_165 rfl rfl ?_
        refine G_getr (q := 169) (g := 46) (i' := 0) cx dX8_undo_166 rfl cf_8 fl_RX8_190 (Nat.le_of_ble_eq_true rfl) rfl rfl (Nat.le_of_ble_eq_true rfl) ?_
        refine G_iload_n (q := 170) cx dX8_undo_169 rfl rfl ?_
        refine G_iald (q := 171) cx dX8_undo_170 rfl (by decide) rfl rfl (Nat.le_of_ble_eq_true rfl) (fun g31 g32 => ?_)
        refine G_iast (q := 172) cx dX8_undo_171 rfl (by decide) rfl rfl (Nat.le_of_ble_eq_true rfl) (fun g33 g34 => ?_)
        refine G_iinc (q := 175) (j := 0) (v := x1_3 + 1) (ls' := [(1, .int (x1_3 + 1)), (0, .ref (ad 8 0))]) cx dX8_undo_172 rfl rfl rfl (Nat.le_of_ble_eq_true rfl) rfl ?_
        refine G_goto (t := 154) cx dX8_undo_175 (by decide) ?_
        exact G_loc [0, 1] rfl (ih_3 (x1_3 + 1) (sI S_3 26 0 x1_3.toNatClampNeg (gI S_3 46 0 x1_3.toNatClampNeg)))
    refine G_loc [0, 1] rfl (lp_3 _ (fun y1_3 T_3 => ?_) 1000 (0 : Int32) T_2)
    refine G_iconst (q := 179) (v := (0 : Int32)) cx dX8_undo_178 rfl (by decide) ?_
    refine G_istore_n (q := 180) (ls' := [(1, .int (0 : Int32)), (0, .ref (ad 8 0))]) cx dX8_undo_179 rfl rfl (Nat.le_of_ble_eq_true rfl) rfl ?_
    have lp_4 : ∀ (K_4 : Int32 → St → Option (Int32 × St)) (hK_4 : ∀ (y1_4 : Int32) (T_4 : St), TG p l e 0 s m ([.ref (ad 8 0)] : List Value).toArray below meth c D cy ad nM toI okT T_4 215 [(1, .int y1_4), (0, .ref (ad 8 0))] [] (K_4 y1_4 T_4)), ∀ (n_4 : Nat) (x1_4 : Int32) (S_4 : St), TG p l e 0 s m ([.ref (ad 8 0)] : List Value).toArray below meth c D cy ad nM toI okT S_4 180 [(1, .int x1_4), (0, .ref (ad 8 0))] [] (L_X8_undo_180 K_4 n_4 x1_4 S_4) := by
      intro K_4 hK_4 n_4
      induction n_4 with
      | zero => intros; exact G_none
      | succ n_4 ih_4 =>
        intro x1_4 S_4
        rw [L_X8_undo_180.eq_2]
        refine G_iload_n (q := 181) cx dX8_undo_180 rfl rfl ?_
        refine G_iconst (q := 182) (v := (4 : Int32)) cx dX8_undo_181 rfl (by decide) ?_
        refine G_icmp_ge (q := 185) (t := 215) cx dX8_undo_182 rfl (by decide) (fun c21 => ?_) (fun c21 => ?_)
        · exact G_loc [0, 1] rfl (hK_4 x1_4 S_4)
        refine G_aload_n (q := 186) cx dX8_undo_185 rfl rfl ?_
        refine G_getr (q := 189) (g := 37) (i' := 0) cx dX8_undo_186 rfl cf_8 fl_RX8_123 (Nat.le_of_ble_eq_true rfl) rfl rfl (Nat.le_of_ble_eq_true rfl) ?_
        refine G_iload_n (q := 190) cx dX8_undo_189 rfl rfl ?_
        refine G_aload_n (q := 191) cx dX8_undo_190 rfl rfl ?_
        refine G_getr (q := 194) (g := 47) (i' := 0) cx dX8_undo_191 rfl cf_8 fl_RX8_193 (Nat.le_of_ble_eq_true rfl) rfl rfl (Nat.le_of_ble_eq_true rfl) ?_
        refine G_iload_n (q := 195) cx dX8_undo_194 rfl rfl ?_
        refine G_iald (q := 196) cx dX8_undo_195 rfl (by decide) rfl rfl (Nat.le_of_ble_eq_true rfl) (fun g22 g23 => ?_)
        refine G_iast (q := 197) cx dX8_undo_196 rfl (by decide) rfl rfl (Nat.le_of_ble_eq_true rfl) (fun g24 g25 => ?_)
        refine G_aload_n (q := 198) cx dX8_undo_197 rfl rfl ?_
        refine G_getr (q := 201) (g := 38) (i' := 0) cx dX8_undo_198 rfl cf_8 fl_RX8_126 (Nat.le_of_ble_eq_true rfl) rfl rfl (Nat.le_of_ble_eq_true rfl) ?_
        refine G_iload_n (q := 202) cx dX8_undo_201 rfl rfl ?_
        refine G_aload_n (q := 203) cx dX8_undo_202 rfl rfl ?_
        refine G_getr (q := 206) (g := 48) (i' := 0) cx dX8_undo_203 rfl cf_8 fl_RX8_196 (Nat.le_of_ble_eq_true rfl) rfl rfl (Nat.le_of_ble_eq_true rfl) ?_
        refine G_iload_n (q := 207) cx dX8_undo_206 rfl rfl ?_
        refine G_iald (q := 208) cx dX8_undo_207 rfl (by decide) rfl rfl (Nat.le_of_ble_eq_true rfl) (fun g26 g27 => ?_)
        refine G_iast (q := 209) cx dX8_undo_208 rfl (by decide) rfl rfl (Nat.le_of_ble_eq_true rfl) (fun g28 g29 => ?_)
        refine G_iinc (q := 212) (j := 0) (v := x1_4 + 1) (ls' := [(1, .int (x1_4 + 1)), (0, .ref (ad 8 0))]) cx dX8_undo_209 rfl rfl rfl (Nat.le_of_ble_eq_true rfl) rfl ?_
        refine G_goto (t := 180) cx dX8_undo_212 (by decide) ?_
        exact G_loc [0, 1] rfl (ih_4 (x1_4 + 1) (sI (sI S_4 37 0 x1_4.toNatClampNeg (gI S_4 47 0 x1_4.toNatClampNeg)) 38 0 x1_4.toNatClampNeg (gI (sI S_4 37 0 x1_4.toNatClampNeg (gI S_4 47 0 x1_4.toNatClampNeg)) 48 0 x1_4.toNatClampNeg)))
    refine G_loc [0, 1] rfl (lp_4 _ (fun y1_4 T_4 => ?_) 1000 (0 : Int32) T_3)
    refine G_iconst (q := 216) (v := (0 : Int32)) cx dX8_undo_215 rfl (by decide) ?_
    refine G_istore_n (q := 217) (ls' := [(1, .int (0 : Int32)), (0, .ref (ad 8 0))]) cx dX8_undo_216 rfl rfl (Nat.le_of_ble_eq_true rfl) rfl ?_
    have lp_5 : ∀ (K_5 : Int32 → St → Option (Int32 × St)) (hK_5 : ∀ (y1_5 : Int32) (T_5 : St), TG p l e 0 s m ([.ref (ad 8 0)] : List Value).toArray below meth c D cy ad nM toI okT T_5 240 [(1, .int y1_5), (0, .ref (ad 8 0))] [] (K_5 y1_5 T_5)), ∀ (n_5 : Nat) (x1_5 : Int32) (S_5 : St), TG p l e 0 s m ([.ref (ad 8 0)] : List Value).toArray below meth c D cy ad nM toI okT S_5 217 [(1, .int x1_5), (0, .ref (ad 8 0))] [] (L_X8_undo_217 K_5 n_5 x1_5 S_5) := by
      intro K_5 hK_5 n_5
      induction n_5 with
      | zero => intros; exact G_none
      | succ n_5 ih_5 =>
        intro x1_5 S_5
        rw [L_X8_undo_217.eq_2]
        refine G_iload_n (q := 218) cx dX8_undo_217 rfl rfl ?_
        refine G_iconst (q := 219) (v := (5 : Int32)) cx dX8_undo_218 rfl (by decide) ?_
        refine G_icmp_ge (q := 222) (t := 240) cx dX8_undo_219 rfl (by decide) (fun c16 => ?_) (fun c16 => ?_)
        · exact G_loc [0, 1] rfl (hK_5 x1_5 S_5)
        refine G_aload_n (q := 223) cx dX8_undo_222 rfl rfl ?_
        refine G_getr (q := 226) (g := 39) (i' := 0) cx dX8_undo_223 rfl cf_8 fl_RX8_132 (Nat.le_of_ble_eq_true rfl) rfl rfl (Nat.le_of_ble_eq_true rfl) ?_
        refine G_iload_n (q := 227) cx dX8_undo_226 rfl rfl ?_
        refine G_aload_n (q := 228) cx dX8_undo_227 rfl rfl ?_
        refine G_getr (q := 231) (g := 49) (i' := 0) cx dX8_undo_228 rfl cf_8 fl_RX8_199 (Nat.le_of_ble_eq_true rfl) rfl rfl (Nat.le_of_ble_eq_true rfl) ?_
        refine G_iload_n (q := 232) cx dX8_undo_231 rfl rfl ?_
        refine G_iald (q := 233) cx dX8_undo_232 rfl (by decide) rfl rfl (Nat.le_of_ble_eq_true rfl) (fun g17 g18 => ?_)
        refine G_iast (q := 234) cx dX8_undo_233 rfl (by decide) rfl rfl (Nat.le_of_ble_eq_true rfl) (fun g19 g20 => ?_)
        refine G_iinc (q := 237) (j := 0) (v := x1_5 + 1) (ls' := [(1, .int (x1_5 + 1)), (0, .ref (ad 8 0))]) cx dX8_undo_234 rfl rfl rfl (Nat.le_of_ble_eq_true rfl) rfl ?_
        refine G_goto (t := 217) cx dX8_undo_237 (by decide) ?_
        exact G_loc [0, 1] rfl (ih_5 (x1_5 + 1) (sI S_5 39 0 x1_5.toNatClampNeg (gI S_5 49 0 x1_5.toNatClampNeg)))
    refine G_loc [0, 1] rfl (lp_5 _ (fun y1_5 T_5 => ?_) 1000 (0 : Int32) T_4)
    refine G_iconst (q := 241) (v := (0 : Int32)) cx dX8_undo_240 rfl (by decide) ?_
    refine G_istore_n (q := 242) (ls' := [(1, .int (0 : Int32)), (0, .ref (ad 8 0))]) cx dX8_undo_241 rfl rfl (Nat.le_of_ble_eq_true rfl) rfl ?_
    have lp_6 : ∀ (K_6 : Int32 → St → Option (Int32 × St)) (hK_6 : ∀ (y1_6 : Int32) (T_6 : St), TG p l e 0 s m ([.ref (ad 8 0)] : List Value).toArray below meth c D cy ad nM toI okT T_6 278 [(1, .int y1_6), (0, .ref (ad 8 0))] [] (K_6 y1_6 T_6)), ∀ (n_6 : Nat) (x1_6 : Int32) (S_6 : St), TG p l e 0 s m ([.ref (ad 8 0)] : List Value).toArray below meth c D cy ad nM toI okT S_6 242 [(1, .int x1_6), (0, .ref (ad 8 0))] [] (L_X8_undo_242 K_6 n_6 x1_6 S_6) := by
      intro K_6 hK_6 n_6
      induction n_6 with
      | zero => intros; exact G_none
      | succ n_6 ih_6 =>
        intro x1_6 S_6
        rw [L_X8_undo_242.eq_2]
        refine G_iload_n (q := 243) cx dX8_undo_242 rfl rfl ?_
        refine G_bipush (q := 245) (v := (8 : Int32)) cx dX8_undo_243 rfl (by decide) ?_
        refine G_icmp_ge (q := 248) (t := 278) cx dX8_undo_245 rfl (by decide) (fun c7 => ?_) (fun c7 => ?_)
        · exact G_loc [0, 1] rfl (hK_6 x1_6 S_6)
        refine G_aload_n (q := 249) cx dX8_undo_248 rfl rfl ?_
        refine G_getr (q := 252) (g := 40) (i' := 0) cx dX8_undo_249 rfl cf_8 fl_RX8_138 (Nat.le_of_ble_eq_true rfl) rfl rfl (Nat.le_of_ble_eq_true rfl) ?_
        refine G_iload_n (q := 253) cx dX8_undo_252 rfl rfl ?_
        refine G_aload_n (q := 254) cx dX8_undo_253 rfl rfl ?_
        refine G_getr (q := 257) (g := 50) (i' := 0) cx dX8_undo_254 rfl cf_8 fl_RX8_202 (Nat.le_of_ble_eq_true rfl) rfl rfl (Nat.le_of_ble_eq_true rfl) ?_
        refine G_iload_n (q := 258) cx dX8_undo_257 rfl rfl ?_
        refine G_iald (q := 259) cx dX8_undo_258 rfl (by decide) rfl rfl (Nat.le_of_ble_eq_true rfl) (fun g8 g9 => ?_)
        refine G_iast (q := 260) cx dX8_undo_259 rfl (by decide) rfl rfl (Nat.le_of_ble_eq_true rfl) (fun g10 g11 => ?_)
        refine G_aload_n (q := 261) cx dX8_undo_260 rfl rfl ?_
        refine G_getr (q := 264) (g := 41) (i' := 0) cx dX8_undo_261 rfl cf_8 fl_RX8_141 (Nat.le_of_ble_eq_true rfl) rfl rfl (Nat.le_of_ble_eq_true rfl) ?_
        refine G_iload_n (q := 265) cx dX8_undo_264 rfl rfl ?_
        refine G_aload_n (q := 266) cx dX8_undo_265 rfl rfl ?_
        refine G_getr (q := 269) (g := 51) (i' := 0) cx dX8_undo_266 rfl cf_8 fl_RX8_205 (Nat.le_of_ble_eq_true rfl) rfl rfl (Nat.le_of_ble_eq_true rfl) ?_
        refine G_iload_n (q := 270) cx dX8_undo_269 rfl rfl ?_
        refine G_iald (q := 271) cx dX8_undo_270 rfl (by decide) rfl rfl (Nat.le_of_ble_eq_true rfl) (fun g12 g13 => ?_)
        refine G_iast (q := 272) cx dX8_undo_271 rfl (by decide) rfl rfl (Nat.le_of_ble_eq_true rfl) (fun g14 g15 => ?_)
        refine G_iinc (q := 275) (j := 0) (v := x1_6 + 1) (ls' := [(1, .int (x1_6 + 1)), (0, .ref (ad 8 0))]) cx dX8_undo_272 rfl rfl rfl (Nat.le_of_ble_eq_true rfl) rfl ?_
        refine G_goto (t := 242) cx dX8_undo_275 (by decide) ?_
        exact G_loc [0, 1] rfl (ih_6 (x1_6 + 1) (sI (sI S_6 40 0 x1_6.toNatClampNeg (gI S_6 50 0 x1_6.toNatClampNeg)) 41 0 x1_6.toNatClampNeg (gI (sI S_6 40 0 x1_6.toNatClampNeg (gI S_6 50 0 x1_6.toNatClampNeg)) 51 0 x1_6.toNatClampNeg)))
    refine G_loc [0, 1] rfl (lp_6 _ (fun y1_6 T_6 => ?_) 1000 (0 : Int32) T_5)
    refine G_aload_n (q := 279) cx dX8_undo_278 rfl rfl ?_
    refine G_geti (q := 282) cx dX8_undo_279 rfl cf_8 fl_RX8_7 (Nat.le_of_ble_eq_true rfl) rfl (Nat.le_of_ble_eq_true rfl) ?_
    exact G_iret cx rfl dX8_undo_282 trivial
  · refine G_bipush (q := 9) (v := (-3 : Int32)) cx dX8_undo_7 rfl (by decide) ?_
    exact G_iret cx rfl dX8_undo_9 trivial
def F_X8_body (S : St) (a1 : Int32) : Option (Unit × St) :=
  if (20 : Int32) ≤ (gI S 8 0 65) then (some ((), (sI S 8 0 65 ((gI S 8 0 65) + (1 : Int32)))))
  else (if 0 ≤ (gI S 8 0 65) ∧ (gI S 8 0 65).toNatClampNeg < 20 then (some ((), (sI (sI S 52 0 (gI S 8 0 65).toNatClampNeg a1) 8 0 65 ((gI (sI S 52 0 (gI S 8 0 65).toNatClampNeg a1) 8 0 65) + (1 : Int32)))))
  else none)
set_option maxRecDepth 10000 in
theorem c_X8_body (l : Launch) {D : va_G} {cy : Nat → ClassId} {ad : Nat → Nat → Nat} (hJ : wJ ad nM) (S : St) (a1 : Int32) : CT l yX8_body cX8_body 2 none 0 D cy ad nM toU okT [.ref (ad 8 0), .int a1] S (F_X8_body S a1) := by
  refine CT.of RX8 (by decide) rfl hJ (Nat.le_of_ble_eq_true rfl) rfl ?_
  intro p e s m below meth c cx
  unfold F_X8_body
  refine G_aload_n (q := 1) cx dX8_body_0 rfl rfl ?_
  refine G_geti (q := 4) cx dX8_body_1 rfl cf_8 fl_RX8_208 (Nat.le_of_ble_eq_true rfl) rfl (Nat.le_of_ble_eq_true rfl) ?_
  refine G_bipush (q := 6) (v := (20 : Int32)) cx dX8_body_4 rfl (by decide) ?_
  refine G_icmp_ge (q := 9) (t := 19) cx dX8_body_6 rfl (by decide) (fun c1 => ?_) (fun c1 => ?_)
  · refine G_aload_n (q := 20) cx dX8_body_19 rfl rfl ?_
    refine G_dup (q := 21) cx dX8_body_20 rfl rfl ?_
    refine G_geti (q := 24) cx dX8_body_21 rfl cf_8 fl_RX8_208 (Nat.le_of_ble_eq_true rfl) rfl (Nat.le_of_ble_eq_true rfl) ?_
    refine G_iconst (q := 25) (v := (1 : Int32)) cx dX8_body_24 rfl (by decide) ?_
    refine G_iadd (q := 26) cx dX8_body_25 rfl ?_
    refine G_puti (q := 29) cx dX8_body_26 rfl cf_8 fl_RX8_208 (Nat.le_of_ble_eq_true rfl) rfl rfl rfl rfl rfl (Nat.le_of_ble_eq_true rfl) ?_
    exact G_vret cx rfl dX8_body_29 trivial
  refine G_aload_n (q := 10) cx dX8_body_9 rfl rfl ?_
  refine G_getr (q := 13) (g := 52) (i' := 0) cx dX8_body_10 rfl cf_8 fl_RX8_211 (Nat.le_of_ble_eq_true rfl) rfl rfl (Nat.le_of_ble_eq_true rfl) ?_
  refine G_aload_n (q := 14) cx dX8_body_13 rfl rfl ?_
  refine G_geti (q := 17) cx dX8_body_14 rfl cf_8 fl_RX8_208 (Nat.le_of_ble_eq_true rfl) rfl (Nat.le_of_ble_eq_true rfl) ?_
  refine G_iload_n (q := 18) cx dX8_body_17 rfl rfl ?_
  refine G_iast (q := 19) cx dX8_body_18 rfl (by decide) rfl rfl (Nat.le_of_ble_eq_true rfl) (fun g2 g3 => ?_)
  refine G_aload_n (q := 20) cx dX8_body_19 rfl rfl ?_
  refine G_dup (q := 21) cx dX8_body_20 rfl rfl ?_
  refine G_geti (q := 24) cx dX8_body_21 rfl cf_8 fl_RX8_208 (Nat.le_of_ble_eq_true rfl) rfl (Nat.le_of_ble_eq_true rfl) ?_
  refine G_iconst (q := 25) (v := (1 : Int32)) cx dX8_body_24 rfl (by decide) ?_
  refine G_iadd (q := 26) cx dX8_body_25 rfl ?_
  refine G_puti (q := 29) cx dX8_body_26 rfl cf_8 fl_RX8_208 (Nat.le_of_ble_eq_true rfl) rfl rfl rfl rfl rfl (Nat.le_of_ble_eq_true rfl) ?_
  exact G_vret cx rfl dX8_body_29 trivial
def F_X8_liftTurns (S : St) (a1 : Int32) (a2 : Int32) : Option (Int32 × St) :=
  bnd (F_X8_body S (10 : Int32)) (fun r1 S2 =>
  some (a2 + a1, S2))
set_option maxRecDepth 10000 in
theorem c_X8_liftTurns (l : Launch) {D : va_G} {cy : Nat → ClassId} {ad : Nat → Nat → Nat} (hJ : wJ ad nM) (S : St) (a1 : Int32) (a2 : Int32) : CT l yX8_liftTurns cX8_liftTurns 3 (some .int) 1 D cy ad nM toI okT [.ref (ad 8 0), .int a1, .int a2] S (F_X8_liftTurns S a1 a2) := by
  refine CT.of RX8 (by decide) rfl hJ (Nat.le_of_ble_eq_true rfl) rfl ?_
  intro p e s m below meth c cx
  unfold F_X8_liftTurns
  refine G_aload_n (q := 1) cx dX8_liftTurns_0 rfl rfl ?_
  refine G_bipush (q := 3) (v := (10 : Int32)) cx dX8_liftTurns_1 rfl (by decide) ?_
  refine G_callV (q := 6) (d' := 0) (f := 8) (i := 0) (As := [.int (10 : Int32)]) (rest := []) (stk := fun _ => []) cx dX8_liftTurns_3 rfl cf_8 (Nat.le_of_ble_eq_true rfl) ml_RX8_376 rfl rfl (Nat.le_of_ble_eq_true rfl) (Nat.le_of_ble_eq_true rfl) (Nat.le_of_ble_eq_true rfl) (c_X8_body l hJ  _ (10 : Int32)) (fun _ => rfl) (fun r1 S2 h3 o4 => ?_)
  refine G_iload_n (q := 7) cx dX8_liftTurns_6 rfl rfl ?_
  refine G_iload_n (q := 8) cx dX8_liftTurns_7 rfl rfl ?_
  refine G_iadd (q := 9) cx dX8_liftTurns_8 rfl ?_
  exact G_iret cx rfl dX8_liftTurns_9 trivial
def F_X8_turnsAct (S : St) (a1 : Int32) (a2 : Int32) : Option (Int32 × St) :=
  if 0 ≤ a1 ∧ a1.toNatClampNeg < 6 then (if (gI S 22 0 a1.toNatClampNeg) = 2 then (bnd (F_X8_body S (30 : Int32)) (fun r4 S5 =>
  bnd (F_X8_liftTurns S5 a1 (a2 * (3 : Int32))) (fun r8 S9 =>
  some (r8, S9))))
  else (if (gI S 22 0 a1.toNatClampNeg) = 4 then (bnd (F_X8_body S (50 : Int32)) (fun r13 S14 =>
  bnd (F_X8_liftTurns S14 a1 a2) (fun r17 S18 =>
  some (-r17, S18))))
  else (if (gI S 22 0 a1.toNatClampNeg) = 5 then (bnd (F_X8_body S (30 : Int32)) (fun r22 S23 =>
  bnd (F_X8_liftTurns S23 a1 (a2 * (3 : Int32))) (fun r26 S27 =>
  some (r26, S27))))
  else (if (gI S 22 0 a1.toNatClampNeg) = 6 then (bnd (F_X8_body S (71 : Int32)) (fun r31 S32 =>
  bnd (F_X8_liftTurns S32 a1 a2) (fun r35 S36 =>
  if 0 ≤ a1 ∧ a1.toNatClampNeg < 6 then (some (r35 ^^^ (gI S36 23 0 a1.toNatClampNeg), S36))
  else none)))
  else (bnd (F_X8_liftTurns S a1 a2) (fun r41 S42 =>
  some (r41, S42)))))))
  else none
set_option maxRecDepth 10000 in
theorem c_X8_turnsAct (l : Launch) {D : va_G} {cy : Nat → ClassId} {ad : Nat → Nat → Nat} (hJ : wJ ad nM) (S : St) (a1 : Int32) (a2 : Int32) : CT l yX8_turnsAct cX8_turnsAct 3 (some .int) 2 D cy ad nM toI okT [.ref (ad 8 0), .int a1, .int a2] S (F_X8_turnsAct S a1 a2) := by
  refine CT.of RX8 (by decide) rfl hJ (Nat.le_of_ble_eq_true rfl) rfl ?_
  intro p e s m below meth c cx
  unfold F_X8_turnsAct
  refine G_aload_n (q := 1) cx dX8_turnsAct_0 rfl rfl ?_
  refine G_getr (q := 4) (g := 22) (i' := 0) cx dX8_turnsAct_1 rfl cf_8 fl_RX8_28 (Nat.le_of_ble_eq_true rfl) rfl rfl (Nat.le_of_ble_eq_true rfl) ?_
  refine G_iload_n (q := 5) cx dX8_turnsAct_4 rfl rfl ?_
  refine G_iald (q := 6) cx dX8_turnsAct_5 rfl (by decide) rfl rfl (Nat.le_of_ble_eq_true rfl) (fun g1 g2 => ?_)
  refine G_case (fun w3 => ?_) (fun w3 => ?_)
  · refine G_tswIn (t := 40) (off := 34) cx dX8_turnsAct_6 w3 (by decide) (by decide) (by decide) (by decide) ?_
    refine G_aload_n (q := 41) cx dX8_turnsAct_40 rfl rfl ?_
    refine G_bipush (q := 43) (v := (30 : Int32)) cx dX8_turnsAct_41 rfl (by decide) ?_
    refine G_callV (q := 46) (d' := 0) (f := 8) (i := 0) (As := [.int (30 : Int32)]) (rest := []) (stk := fun _ => []) cx dX8_turnsAct_43 rfl cf_8 (Nat.le_of_ble_eq_true rfl) ml_RX8_376 rfl rfl (Nat.le_of_ble_eq_true rfl) (Nat.le_of_ble_eq_true rfl) (Nat.le_of_ble_eq_true rfl) (c_X8_body l hJ  _ (30 : Int32)) (fun _ => rfl) (fun r4 S5 h6 o7 => ?_)
    refine G_aload_n (q := 47) cx dX8_turnsAct_46 rfl rfl ?_
    refine G_iload_n (q := 48) cx dX8_turnsAct_47 rfl rfl ?_
    refine G_iload_n (q := 49) cx dX8_turnsAct_48 rfl rfl ?_
    refine G_iconst (q := 50) (v := (3 : Int32)) cx dX8_turnsAct_49 rfl (by decide) ?_
    refine G_imul (q := 51) cx dX8_turnsAct_50 rfl ?_
    refine G_callV (q := 54) (d' := 1) (f := 8) (i := 0) (As := [.int a1, .int (a2 * (3 : Int32))]) (rest := []) (stk := fun r8 => [.int r8]) cx dX8_turnsAct_51 rfl cf_8 (Nat.le_of_ble_eq_true rfl) ml_RX8_379 rfl rfl (Nat.le_of_ble_eq_true rfl) (Nat.le_of_ble_eq_true rfl) (Nat.le_of_ble_eq_true rfl) (c_X8_liftTurns l hJ  _ a1 (a2 * (3 : Int32))) (fun _ => rfl) (fun r8 S9 h10 o11 => ?_)
    exact G_iret cx rfl dX8_turnsAct_54 trivial
  refine G_case (fun w12 => ?_) (fun w12 => ?_)
  · refine G_tswIn (t := 55) (off := 49) cx dX8_turnsAct_6 w12 (by decide) (by decide) (by decide) (by decide) ?_
    refine G_aload_n (q := 56) cx dX8_turnsAct_55 rfl rfl ?_
    refine G_bipush (q := 58) (v := (50 : Int32)) cx dX8_turnsAct_56 rfl (by decide) ?_
    refine G_callV (q := 61) (d' := 0) (f := 8) (i := 0) (As := [.int (50 : Int32)]) (rest := []) (stk := fun _ => []) cx dX8_turnsAct_58 rfl cf_8 (Nat.le_of_ble_eq_true rfl) ml_RX8_376 rfl rfl (Nat.le_of_ble_eq_true rfl) (Nat.le_of_ble_eq_true rfl) (Nat.le_of_ble_eq_true rfl) (c_X8_body l hJ  _ (50 : Int32)) (fun _ => rfl) (fun r13 S14 h15 o16 => ?_)
    refine G_aload_n (q := 62) cx dX8_turnsAct_61 rfl rfl ?_
    refine G_iload_n (q := 63) cx dX8_turnsAct_62 rfl rfl ?_
    refine G_iload_n (q := 64) cx dX8_turnsAct_63 rfl rfl ?_
    refine G_callV (q := 67) (d' := 1) (f := 8) (i := 0) (As := [.int a1, .int a2]) (rest := []) (stk := fun r17 => [.int r17]) cx dX8_turnsAct_64 rfl cf_8 (Nat.le_of_ble_eq_true rfl) ml_RX8_379 rfl rfl (Nat.le_of_ble_eq_true rfl) (Nat.le_of_ble_eq_true rfl) (Nat.le_of_ble_eq_true rfl) (c_X8_liftTurns l hJ  _ a1 a2) (fun _ => rfl) (fun r17 S18 h19 o20 => ?_)
    refine G_ineg (q := 68) cx dX8_turnsAct_67 rfl ?_
    exact G_iret cx rfl dX8_turnsAct_68 trivial
  refine G_case (fun w21 => ?_) (fun w21 => ?_)
  · refine G_tswIn (t := 40) (off := 34) cx dX8_turnsAct_6 w21 (by decide) (by decide) (by decide) (by decide) ?_
    refine G_aload_n (q := 41) cx dX8_turnsAct_40 rfl rfl ?_
    refine G_bipush (q := 43) (v := (30 : Int32)) cx dX8_turnsAct_41 rfl (by decide) ?_
    refine G_callV (q := 46) (d' := 0) (f := 8) (i := 0) (As := [.int (30 : Int32)]) (rest := []) (stk := fun _ => []) cx dX8_turnsAct_43 rfl cf_8 (Nat.le_of_ble_eq_true rfl) ml_RX8_376 rfl rfl (Nat.le_of_ble_eq_true rfl) (Nat.le_of_ble_eq_true rfl) (Nat.le_of_ble_eq_true rfl) (c_X8_body l hJ  _ (30 : Int32)) (fun _ => rfl) (fun r22 S23 h24 o25 => ?_)
    refine G_aload_n (q := 47) cx dX8_turnsAct_46 rfl rfl ?_
    refine G_iload_n (q := 48) cx dX8_turnsAct_47 rfl rfl ?_
    refine G_iload_n (q := 49) cx dX8_turnsAct_48 rfl rfl ?_
    refine G_iconst (q := 50) (v := (3 : Int32)) cx dX8_turnsAct_49 rfl (by decide) ?_
    refine G_imul (q := 51) cx dX8_turnsAct_50 rfl ?_
    refine G_callV (q := 54) (d' := 1) (f := 8) (i := 0) (As := [.int a1, .int (a2 * (3 : Int32))]) (rest := []) (stk := fun r26 => [.int r26]) cx dX8_turnsAct_51 rfl cf_8 (Nat.le_of_ble_eq_true rfl) ml_RX8_379 rfl rfl (Nat.le_of_ble_eq_true rfl) (Nat.le_of_ble_eq_true rfl) (Nat.le_of_ble_eq_true rfl) (c_X8_liftTurns l hJ  _ a1 (a2 * (3 : Int32))) (fun _ => rfl) (fun r26 S27 h28 o29 => ?_)
    exact G_iret cx rfl dX8_turnsAct_54 trivial
  refine G_case (fun w30 => ?_) (fun w30 => ?_)
  · refine G_tswIn (t := 69) (off := 63) cx dX8_turnsAct_6 w30 (by decide) (by decide) (by decide) (by decide) ?_
    refine G_aload_n (q := 70) cx dX8_turnsAct_69 rfl rfl ?_
    refine G_bipush (q := 72) (v := (71 : Int32)) cx dX8_turnsAct_70 rfl (by decide) ?_
    refine G_callV (q := 75) (d' := 0) (f := 8) (i := 0) (As := [.int (71 : Int32)]) (rest := []) (stk := fun _ => []) cx dX8_turnsAct_72 rfl cf_8 (Nat.le_of_ble_eq_true rfl) ml_RX8_376 rfl rfl (Nat.le_of_ble_eq_true rfl) (Nat.le_of_ble_eq_true rfl) (Nat.le_of_ble_eq_true rfl) (c_X8_body l hJ  _ (71 : Int32)) (fun _ => rfl) (fun r31 S32 h33 o34 => ?_)
    refine G_aload_n (q := 76) cx dX8_turnsAct_75 rfl rfl ?_
    refine G_iload_n (q := 77) cx dX8_turnsAct_76 rfl rfl ?_
    refine G_iload_n (q := 78) cx dX8_turnsAct_77 rfl rfl ?_
    refine G_callV (q := 81) (d' := 1) (f := 8) (i := 0) (As := [.int a1, .int a2]) (rest := []) (stk := fun r35 => [.int r35]) cx dX8_turnsAct_78 rfl cf_8 (Nat.le_of_ble_eq_true rfl) ml_RX8_379 rfl rfl (Nat.le_of_ble_eq_true rfl) (Nat.le_of_ble_eq_true rfl) (Nat.le_of_ble_eq_true rfl) (c_X8_liftTurns l hJ  _ a1 a2) (fun _ => rfl) (fun r35 S36 h37 o38 => ?_)
    refine G_aload_n (q := 82) cx dX8_turnsAct_81 rfl rfl ?_
    refine G_getr (q := 85) (g := 23) (i' := 0) cx dX8_turnsAct_82 rfl cf_8 fl_RX8_32 (Nat.le_of_ble_eq_true rfl) rfl rfl (Nat.le_of_ble_eq_true rfl) ?_
    refine G_iload_n (q := 86) cx dX8_turnsAct_85 rfl rfl ?_
    refine G_iald (q := 87) cx dX8_turnsAct_86 rfl (by decide) rfl rfl (Nat.le_of_ble_eq_true rfl) (fun g39 g40 => ?_)
    refine G_ixor (q := 88) cx dX8_turnsAct_87 rfl ?_
    exact G_iret cx rfl dX8_turnsAct_88 trivial
  have hz6_0 := lv_neT w3 (show (2 : Int32).toInt = 2 by decide)
  have hz6_1 := lv_neT w12 (show (4 : Int32).toInt = 4 by decide)
  have hz6_2 := lv_neT w21 (show (5 : Int32).toInt = 5 by decide)
  have hz6_3 := lv_neT w30 (show (6 : Int32).toInt = 6 by decide)
  refine G_tswDef (t := 89) cx dX8_turnsAct_6 (fun u1 u2 => by rcases (show (gI S 22 0 a1.toNatClampNeg).toInt = 3 by omega) with u <;> (rw [u]; decide)) (by decide) ?_
  refine G_aload_n (q := 90) cx dX8_turnsAct_89 rfl rfl ?_
  refine G_iload_n (q := 91) cx dX8_turnsAct_90 rfl rfl ?_
  refine G_iload_n (q := 92) cx dX8_turnsAct_91 rfl rfl ?_
  refine G_callV (q := 95) (d' := 1) (f := 8) (i := 0) (As := [.int a1, .int a2]) (rest := []) (stk := fun r41 => [.int r41]) cx dX8_turnsAct_92 rfl cf_8 (Nat.le_of_ble_eq_true rfl) ml_RX8_379 rfl rfl (Nat.le_of_ble_eq_true rfl) (Nat.le_of_ble_eq_true rfl) (Nat.le_of_ble_eq_true rfl) (c_X8_liftTurns l hJ  _ a1 a2) (fun _ => rfl) (fun r41 S42 h43 o44 => ?_)
  exact G_iret cx rfl dX8_turnsAct_95 trivial
def F_X8_liftClimbs (S : St) (a1 : Int32) (a2 : Int32) : Option (Int32 × St) :=
  bnd (F_X8_body S (11 : Int32)) (fun r1 S2 =>
  bnd (F_X8_turnsAct S2 a1 a2) (fun r5 S6 =>
  if 0 ≤ a1 ∧ a1.toNatClampNeg < 6 then (some (r5 - (gI S6 23 0 a1.toNatClampNeg), S6))
  else none))
set_option maxRecDepth 10000 in
theorem c_X8_liftClimbs (l : Launch) {D : va_G} {cy : Nat → ClassId} {ad : Nat → Nat → Nat} (hJ : wJ ad nM) (S : St) (a1 : Int32) (a2 : Int32) : CT l yX8_liftClimbs cX8_liftClimbs 3 (some .int) 3 D cy ad nM toI okT [.ref (ad 8 0), .int a1, .int a2] S (F_X8_liftClimbs S a1 a2) := by
  refine CT.of RX8 (by decide) rfl hJ (Nat.le_of_ble_eq_true rfl) rfl ?_
  intro p e s m below meth c cx
  unfold F_X8_liftClimbs
  refine G_aload_n (q := 1) cx dX8_liftClimbs_0 rfl rfl ?_
  refine G_bipush (q := 3) (v := (11 : Int32)) cx dX8_liftClimbs_1 rfl (by decide) ?_
  refine G_callV (q := 6) (d' := 0) (f := 8) (i := 0) (As := [.int (11 : Int32)]) (rest := []) (stk := fun _ => []) cx dX8_liftClimbs_3 rfl cf_8 (Nat.le_of_ble_eq_true rfl) ml_RX8_376 rfl rfl (Nat.le_of_ble_eq_true rfl) (Nat.le_of_ble_eq_true rfl) (Nat.le_of_ble_eq_true rfl) (c_X8_body l hJ  _ (11 : Int32)) (fun _ => rfl) (fun r1 S2 h3 o4 => ?_)
  refine G_aload_n (q := 7) cx dX8_liftClimbs_6 rfl rfl ?_
  refine G_iload_n (q := 8) cx dX8_liftClimbs_7 rfl rfl ?_
  refine G_iload_n (q := 9) cx dX8_liftClimbs_8 rfl rfl ?_
  refine G_callV (q := 12) (d' := 2) (f := 8) (i := 0) (As := [.int a1, .int a2]) (rest := []) (stk := fun r5 => [.int r5]) cx dX8_liftClimbs_9 rfl cf_8 (Nat.le_of_ble_eq_true rfl) ml_RX8_382 rfl rfl (Nat.le_of_ble_eq_true rfl) (Nat.le_of_ble_eq_true rfl) (Nat.le_of_ble_eq_true rfl) (c_X8_turnsAct l hJ  _ a1 a2) (fun _ => rfl) (fun r5 S6 h7 o8 => ?_)
  refine G_aload_n (q := 13) cx dX8_liftClimbs_12 rfl rfl ?_
  refine G_getr (q := 16) (g := 23) (i' := 0) cx dX8_liftClimbs_13 rfl cf_8 fl_RX8_32 (Nat.le_of_ble_eq_true rfl) rfl rfl (Nat.le_of_ble_eq_true rfl) ?_
  refine G_iload_n (q := 17) cx dX8_liftClimbs_16 rfl rfl ?_
  refine G_iald (q := 18) cx dX8_liftClimbs_17 rfl (by decide) rfl rfl (Nat.le_of_ble_eq_true rfl) (fun g9 g10 => ?_)
  refine G_isub (q := 19) cx dX8_liftClimbs_18 rfl ?_
  exact G_iret cx rfl dX8_liftClimbs_19 trivial
def F_X8_strongClimbs (S : St) (a1 : Int32) (a2 : Int32) : Option (Int32 × St) :=
  bnd (F_X8_body S (20 : Int32)) (fun r1 S2 =>
  bnd (F_X8_liftClimbs S2 a1 a2) (fun r5 S6 =>
  some (r5 ^^^ (6 : Int32), S6)))
set_option maxRecDepth 10000 in
theorem c_X8_strongClimbs (l : Launch) {D : va_G} {cy : Nat → ClassId} {ad : Nat → Nat → Nat} (hJ : wJ ad nM) (S : St) (a1 : Int32) (a2 : Int32) : CT l yX8_strongClimbs cX8_strongClimbs 3 (some .int) 4 D cy ad nM toI okT [.ref (ad 8 0), .int a1, .int a2] S (F_X8_strongClimbs S a1 a2) := by
  refine CT.of RX8 (by decide) rfl hJ (Nat.le_of_ble_eq_true rfl) rfl ?_
  intro p e s m below meth c cx
  unfold F_X8_strongClimbs
  refine G_aload_n (q := 1) cx dX8_strongClimbs_0 rfl rfl ?_
  refine G_bipush (q := 3) (v := (20 : Int32)) cx dX8_strongClimbs_1 rfl (by decide) ?_
  refine G_callV (q := 6) (d' := 0) (f := 8) (i := 0) (As := [.int (20 : Int32)]) (rest := []) (stk := fun _ => []) cx dX8_strongClimbs_3 rfl cf_8 (Nat.le_of_ble_eq_true rfl) ml_RX8_376 rfl rfl (Nat.le_of_ble_eq_true rfl) (Nat.le_of_ble_eq_true rfl) (Nat.le_of_ble_eq_true rfl) (c_X8_body l hJ  _ (20 : Int32)) (fun _ => rfl) (fun r1 S2 h3 o4 => ?_)
  refine G_aload_n (q := 7) cx dX8_strongClimbs_6 rfl rfl ?_
  refine G_iload_n (q := 8) cx dX8_strongClimbs_7 rfl rfl ?_
  refine G_iload_n (q := 9) cx dX8_strongClimbs_8 rfl rfl ?_
  refine G_callV (q := 12) (d' := 3) (f := 8) (i := 0) (As := [.int a1, .int a2]) (rest := []) (stk := fun r5 => [.int r5]) cx dX8_strongClimbs_9 rfl cf_8 (Nat.le_of_ble_eq_true rfl) ml_RX8_385 rfl rfl (Nat.le_of_ble_eq_true rfl) (Nat.le_of_ble_eq_true rfl) (Nat.le_of_ble_eq_true rfl) (c_X8_liftClimbs l hJ  _ a1 a2) (fun _ => rfl) (fun r5 S6 h7 o8 => ?_)
  refine G_bipush (q := 14) (v := (6 : Int32)) cx dX8_strongClimbs_12 rfl (by decide) ?_
  refine G_ixor (q := 15) cx dX8_strongClimbs_14 rfl ?_
  exact G_iret cx rfl dX8_strongClimbs_15 trivial
def F_X8_climbsAct (S : St) (a1 : Int32) (a2 : Int32) : Option (Int32 × St) :=
  if 0 ≤ a1 ∧ a1.toNatClampNeg < 6 then (if (gI S 22 0 a1.toNatClampNeg) = 1 then (bnd (F_X8_strongClimbs S a1 a2) (fun r4 S5 =>
  some (r4, S5)))
  else (if (gI S 22 0 a1.toNatClampNeg) = 4 then (bnd (F_X8_body S (51 : Int32)) (fun r9 S10 =>
  bnd (F_X8_strongClimbs S10 a1 (a2 + (1 : Int32))) (fun r13 S14 =>
  some (r13, S14))))
  else (if (gI S 22 0 a1.toNatClampNeg) = 6 then (bnd (F_X8_body S (70 : Int32)) (fun r18 S19 =>
  bnd (F_X8_liftClimbs S19 a1 a2) (fun r22 S23 =>
  bnd (F_X8_liftTurns S23 a1 (2 : Int32)) (fun r26 S27 =>
  some (r22 + r26, S27)))))
  else (bnd (F_X8_liftClimbs S a1 a2) (fun r30 S31 =>
  some (r30, S31))))))
  else none
set_option maxRecDepth 10000 in
theorem c_X8_climbsAct (l : Launch) {D : va_G} {cy : Nat → ClassId} {ad : Nat → Nat → Nat} (hJ : wJ ad nM) (S : St) (a1 : Int32) (a2 : Int32) : CT l yX8_climbsAct cX8_climbsAct 4 (some .int) 5 D cy ad nM toI okT [.ref (ad 8 0), .int a1, .int a2] S (F_X8_climbsAct S a1 a2) := by
  refine CT.of RX8 (by decide) rfl hJ (Nat.le_of_ble_eq_true rfl) rfl ?_
  intro p e s m below meth c cx
  unfold F_X8_climbsAct
  refine G_aload_n (q := 1) cx dX8_climbsAct_0 rfl rfl ?_
  refine G_getr (q := 4) (g := 22) (i' := 0) cx dX8_climbsAct_1 rfl cf_8 fl_RX8_28 (Nat.le_of_ble_eq_true rfl) rfl rfl (Nat.le_of_ble_eq_true rfl) ?_
  refine G_iload_n (q := 5) cx dX8_climbsAct_4 rfl rfl ?_
  refine G_iald (q := 6) cx dX8_climbsAct_5 rfl (by decide) rfl rfl (Nat.le_of_ble_eq_true rfl) (fun g1 g2 => ?_)
  refine G_case (fun w3 => ?_) (fun w3 => ?_)
  · refine G_lsw (t := 40) (off := 34) cx dX8_climbsAct_6 (by decide) (by rw [w3] <;> decide) (by decide) ?_
    refine G_aload_n (q := 41) cx dX8_climbsAct_40 rfl rfl ?_
    refine G_iload_n (q := 42) cx dX8_climbsAct_41 rfl rfl ?_
    refine G_iload_n (q := 43) cx dX8_climbsAct_42 rfl rfl ?_
    refine G_callV (q := 46) (d' := 4) (f := 8) (i := 0) (As := [.int a1, .int a2]) (rest := []) (stk := fun r4 => [.int r4]) cx dX8_climbsAct_43 rfl cf_8 (Nat.le_of_ble_eq_true rfl) ml_RX8_388 rfl rfl (Nat.le_of_ble_eq_true rfl) (Nat.le_of_ble_eq_true rfl) (Nat.le_of_ble_eq_true rfl) (c_X8_strongClimbs l hJ  _ a1 a2) (fun _ => rfl) (fun r4 S5 h6 o7 => ?_)
    exact G_iret cx rfl dX8_climbsAct_46 trivial
  refine G_case (fun w8 => ?_) (fun w8 => ?_)
  · refine G_lsw (t := 47) (off := 41) cx dX8_climbsAct_6 (by decide) (by rw [w8] <;> decide) (by decide) ?_
    refine G_aload_n (q := 48) cx dX8_climbsAct_47 rfl rfl ?_
    refine G_bipush (q := 50) (v := (51 : Int32)) cx dX8_climbsAct_48 rfl (by decide) ?_
    refine G_callV (q := 53) (d' := 0) (f := 8) (i := 0) (As := [.int (51 : Int32)]) (rest := []) (stk := fun _ => []) cx dX8_climbsAct_50 rfl cf_8 (Nat.le_of_ble_eq_true rfl) ml_RX8_376 rfl rfl (Nat.le_of_ble_eq_true rfl) (Nat.le_of_ble_eq_true rfl) (Nat.le_of_ble_eq_true rfl) (c_X8_body l hJ  _ (51 : Int32)) (fun _ => rfl) (fun r9 S10 h11 o12 => ?_)
    refine G_aload_n (q := 54) cx dX8_climbsAct_53 rfl rfl ?_
    refine G_iload_n (q := 55) cx dX8_climbsAct_54 rfl rfl ?_
    refine G_iload_n (q := 56) cx dX8_climbsAct_55 rfl rfl ?_
    refine G_iconst (q := 57) (v := (1 : Int32)) cx dX8_climbsAct_56 rfl (by decide) ?_
    refine G_iadd (q := 58) cx dX8_climbsAct_57 rfl ?_
    refine G_callV (q := 61) (d' := 4) (f := 8) (i := 0) (As := [.int a1, .int (a2 + (1 : Int32))]) (rest := []) (stk := fun r13 => [.int r13]) cx dX8_climbsAct_58 rfl cf_8 (Nat.le_of_ble_eq_true rfl) ml_RX8_388 rfl rfl (Nat.le_of_ble_eq_true rfl) (Nat.le_of_ble_eq_true rfl) (Nat.le_of_ble_eq_true rfl) (c_X8_strongClimbs l hJ  _ a1 (a2 + (1 : Int32))) (fun _ => rfl) (fun r13 S14 h15 o16 => ?_)
    exact G_iret cx rfl dX8_climbsAct_61 trivial
  refine G_case (fun w17 => ?_) (fun w17 => ?_)
  · refine G_lsw (t := 62) (off := 56) cx dX8_climbsAct_6 (by decide) (by rw [w17] <;> decide) (by decide) ?_
    refine G_aload_n (q := 63) cx dX8_climbsAct_62 rfl rfl ?_
    refine G_bipush (q := 65) (v := (70 : Int32)) cx dX8_climbsAct_63 rfl (by decide) ?_
    refine G_callV (q := 68) (d' := 0) (f := 8) (i := 0) (As := [.int (70 : Int32)]) (rest := []) (stk := fun _ => []) cx dX8_climbsAct_65 rfl cf_8 (Nat.le_of_ble_eq_true rfl) ml_RX8_376 rfl rfl (Nat.le_of_ble_eq_true rfl) (Nat.le_of_ble_eq_true rfl) (Nat.le_of_ble_eq_true rfl) (c_X8_body l hJ  _ (70 : Int32)) (fun _ => rfl) (fun r18 S19 h20 o21 => ?_)
    refine G_aload_n (q := 69) cx dX8_climbsAct_68 rfl rfl ?_
    refine G_iload_n (q := 70) cx dX8_climbsAct_69 rfl rfl ?_
    refine G_iload_n (q := 71) cx dX8_climbsAct_70 rfl rfl ?_
    refine G_callV (q := 74) (d' := 3) (f := 8) (i := 0) (As := [.int a1, .int a2]) (rest := []) (stk := fun r22 => [.int r22]) cx dX8_climbsAct_71 rfl cf_8 (Nat.le_of_ble_eq_true rfl) ml_RX8_385 rfl rfl (Nat.le_of_ble_eq_true rfl) (Nat.le_of_ble_eq_true rfl) (Nat.le_of_ble_eq_true rfl) (c_X8_liftClimbs l hJ  _ a1 a2) (fun _ => rfl) (fun r22 S23 h24 o25 => ?_)
    refine G_istore_n (q := 75) (ls' := [(3, .int r22), (0, .ref (ad 8 0)), (1, .int a1), (2, .int a2)]) cx dX8_climbsAct_74 rfl rfl (Nat.le_of_ble_eq_true rfl) rfl ?_
    refine G_iload_n (q := 76) cx dX8_climbsAct_75 rfl rfl ?_
    refine G_aload_n (q := 77) cx dX8_climbsAct_76 rfl rfl ?_
    refine G_iload_n (q := 78) cx dX8_climbsAct_77 rfl rfl ?_
    refine G_iconst (q := 79) (v := (2 : Int32)) cx dX8_climbsAct_78 rfl (by decide) ?_
    refine G_callV (q := 82) (d' := 1) (f := 8) (i := 0) (As := [.int a1, .int (2 : Int32)]) (rest := [.int r22]) (stk := fun r26 => [.int r26, .int r22]) cx dX8_climbsAct_79 rfl cf_8 (Nat.le_of_ble_eq_true rfl) ml_RX8_379 rfl rfl (Nat.le_of_ble_eq_true rfl) (Nat.le_of_ble_eq_true rfl) (Nat.le_of_ble_eq_true rfl) (c_X8_liftTurns l hJ  _ a1 (2 : Int32)) (fun _ => rfl) (fun r26 S27 h28 o29 => ?_)
    refine G_iadd (q := 83) cx dX8_climbsAct_82 rfl ?_
    exact G_iret cx rfl dX8_climbsAct_83 trivial
  refine G_lsw (t := 84) (off := 78) cx dX8_climbsAct_6 (by decide) (by show Op.lookupswitch.offset [(1, 34), (4, 41), (6, 56)] 78 _ = _; rw [lv_osw w3 (show (1 : Int32).toInt = 1 by decide)]; rw [lv_osw w8 (show (4 : Int32).toInt = 4 by decide)]; rw [lv_osw w17 (show (6 : Int32).toInt = 6 by decide)] <;> rfl) (by decide) ?_
  refine G_aload_n (q := 85) cx dX8_climbsAct_84 rfl rfl ?_
  refine G_iload_n (q := 86) cx dX8_climbsAct_85 rfl rfl ?_
  refine G_iload_n (q := 87) cx dX8_climbsAct_86 rfl rfl ?_
  refine G_callV (q := 90) (d' := 3) (f := 8) (i := 0) (As := [.int a1, .int a2]) (rest := []) (stk := fun r30 => [.int r30]) cx dX8_climbsAct_87 rfl cf_8 (Nat.le_of_ble_eq_true rfl) ml_RX8_385 rfl rfl (Nat.le_of_ble_eq_true rfl) (Nat.le_of_ble_eq_true rfl) (Nat.le_of_ble_eq_true rfl) (c_X8_liftClimbs l hJ  _ a1 a2) (fun _ => rfl) (fun r30 S31 h32 o33 => ?_)
  exact G_iret cx rfl dX8_climbsAct_90 trivial
def F_X8_liftTells (S : St) (a1 : Int32) (a2 : Int32) : Option (Int32 × St) :=
  bnd (F_X8_body S (12 : Int32)) (fun r1 S2 =>
  bnd (F_X8_climbsAct S2 a1 a2) (fun r5 S6 =>
  some (r5 * (2 : Int32), S6)))
set_option maxRecDepth 10000 in
theorem c_X8_liftTells (l : Launch) {D : va_G} {cy : Nat → ClassId} {ad : Nat → Nat → Nat} (hJ : wJ ad nM) (S : St) (a1 : Int32) (a2 : Int32) : CT l yX8_liftTells cX8_liftTells 3 (some .int) 6 D cy ad nM toI okT [.ref (ad 8 0), .int a1, .int a2] S (F_X8_liftTells S a1 a2) := by
  refine CT.of RX8 (by decide) rfl hJ (Nat.le_of_ble_eq_true rfl) rfl ?_
  intro p e s m below meth c cx
  unfold F_X8_liftTells
  refine G_aload_n (q := 1) cx dX8_liftTells_0 rfl rfl ?_
  refine G_bipush (q := 3) (v := (12 : Int32)) cx dX8_liftTells_1 rfl (by decide) ?_
  refine G_callV (q := 6) (d' := 0) (f := 8) (i := 0) (As := [.int (12 : Int32)]) (rest := []) (stk := fun _ => []) cx dX8_liftTells_3 rfl cf_8 (Nat.le_of_ble_eq_true rfl) ml_RX8_376 rfl rfl (Nat.le_of_ble_eq_true rfl) (Nat.le_of_ble_eq_true rfl) (Nat.le_of_ble_eq_true rfl) (c_X8_body l hJ  _ (12 : Int32)) (fun _ => rfl) (fun r1 S2 h3 o4 => ?_)
  refine G_aload_n (q := 7) cx dX8_liftTells_6 rfl rfl ?_
  refine G_iload_n (q := 8) cx dX8_liftTells_7 rfl rfl ?_
  refine G_iload_n (q := 9) cx dX8_liftTells_8 rfl rfl ?_
  refine G_callV (q := 12) (d' := 5) (f := 8) (i := 0) (As := [.int a1, .int a2]) (rest := []) (stk := fun r5 => [.int r5]) cx dX8_liftTells_9 rfl cf_8 (Nat.le_of_ble_eq_true rfl) ml_RX8_391 rfl rfl (Nat.le_of_ble_eq_true rfl) (Nat.le_of_ble_eq_true rfl) (Nat.le_of_ble_eq_true rfl) (c_X8_climbsAct l hJ  _ a1 a2) (fun _ => rfl) (fun r5 S6 h7 o8 => ?_)
  refine G_iconst (q := 13) (v := (2 : Int32)) cx dX8_liftTells_12 rfl (by decide) ?_
  refine G_imul (q := 14) cx dX8_liftTells_13 rfl ?_
  exact G_iret cx rfl dX8_liftTells_14 trivial
def F_X8_tellsAct (S : St) (a1 : Int32) (a2 : Int32) : Option (Int32 × St) :=
  if 0 ≤ a1 ∧ a1.toNatClampNeg < 6 then (if (gI S 22 0 a1.toNatClampNeg) = 3 then (bnd (F_X8_body S (40 : Int32)) (fun r4 S5 =>
  bnd (F_X8_liftTells S5 a1 a2) (fun r8 S9 =>
  bnd (F_X8_climbsAct S9 a1 (1 : Int32)) (fun r12 S13 =>
  some (r8 + r12, S13)))))
  else (if (gI S 22 0 a1.toNatClampNeg) = 5 then (bnd (F_X8_body S (60 : Int32)) (fun r17 S18 =>
  bnd (F_X8_liftTells S18 a1 (a2 - a1)) (fun r21 S22 =>
  some (r21, S22))))
  else (if (gI S 22 0 a1.toNatClampNeg) = 6 then (bnd (F_X8_body S (40 : Int32)) (fun r26 S27 =>
  bnd (F_X8_liftTells S27 a1 a2) (fun r30 S31 =>
  bnd (F_X8_climbsAct S31 a1 (1 : Int32)) (fun r34 S35 =>
  some (r30 + r34, S35)))))
  else (bnd (F_X8_liftTells S a1 a2) (fun r38 S39 =>
  some (r38, S39))))))
  else none
set_option maxRecDepth 10000 in
theorem c_X8_tellsAct (l : Launch) {D : va_G} {cy : Nat → ClassId} {ad : Nat → Nat → Nat} (hJ : wJ ad nM) (S : St) (a1 : Int32) (a2 : Int32) : CT l yX8_tellsAct cX8_tellsAct 4 (some .int) 7 D cy ad nM toI okT [.ref (ad 8 0), .int a1, .int a2] S (F_X8_tellsAct S a1 a2) := by
  refine CT.of RX8 (by decide) rfl hJ (Nat.le_of_ble_eq_true rfl) rfl ?_
  intro p e s m below meth c cx
  unfold F_X8_tellsAct
  refine G_aload_n (q := 1) cx dX8_tellsAct_0 rfl rfl ?_
  refine G_getr (q := 4) (g := 22) (i' := 0) cx dX8_tellsAct_1 rfl cf_8 fl_RX8_28 (Nat.le_of_ble_eq_true rfl) rfl rfl (Nat.le_of_ble_eq_true rfl) ?_
  refine G_iload_n (q := 5) cx dX8_tellsAct_4 rfl rfl ?_
  refine G_iald (q := 6) cx dX8_tellsAct_5 rfl (by decide) rfl rfl (Nat.le_of_ble_eq_true rfl) (fun g1 g2 => ?_)
  refine G_case (fun w3 => ?_) (fun w3 => ?_)
  · refine G_tswIn (t := 36) (off := 30) cx dX8_tellsAct_6 w3 (by decide) (by decide) (by decide) (by decide) ?_
    refine G_aload_n (q := 37) cx dX8_tellsAct_36 rfl rfl ?_
    refine G_bipush (q := 39) (v := (40 : Int32)) cx dX8_tellsAct_37 rfl (by decide) ?_
    refine G_callV (q := 42) (d' := 0) (f := 8) (i := 0) (As := [.int (40 : Int32)]) (rest := []) (stk := fun _ => []) cx dX8_tellsAct_39 rfl cf_8 (Nat.le_of_ble_eq_true rfl) ml_RX8_376 rfl rfl (Nat.le_of_ble_eq_true rfl) (Nat.le_of_ble_eq_true rfl) (Nat.le_of_ble_eq_true rfl) (c_X8_body l hJ  _ (40 : Int32)) (fun _ => rfl) (fun r4 S5 h6 o7 => ?_)
    refine G_aload_n (q := 43) cx dX8_tellsAct_42 rfl rfl ?_
    refine G_iload_n (q := 44) cx dX8_tellsAct_43 rfl rfl ?_
    refine G_iload_n (q := 45) cx dX8_tellsAct_44 rfl rfl ?_
    refine G_callV (q := 48) (d' := 6) (f := 8) (i := 0) (As := [.int a1, .int a2]) (rest := []) (stk := fun r8 => [.int r8]) cx dX8_tellsAct_45 rfl cf_8 (Nat.le_of_ble_eq_true rfl) ml_RX8_394 rfl rfl (Nat.le_of_ble_eq_true rfl) (Nat.le_of_ble_eq_true rfl) (Nat.le_of_ble_eq_true rfl) (c_X8_liftTells l hJ  _ a1 a2) (fun _ => rfl) (fun r8 S9 h10 o11 => ?_)
    refine G_istore_n (q := 49) (ls' := [(3, .int r8), (0, .ref (ad 8 0)), (1, .int a1), (2, .int a2)]) cx dX8_tellsAct_48 rfl rfl (Nat.le_of_ble_eq_true rfl) rfl ?_
    refine G_iload_n (q := 50) cx dX8_tellsAct_49 rfl rfl ?_
    refine G_aload_n (q := 51) cx dX8_tellsAct_50 rfl rfl ?_
    refine G_iload_n (q := 52) cx dX8_tellsAct_51 rfl rfl ?_
    refine G_iconst (q := 53) (v := (1 : Int32)) cx dX8_tellsAct_52 rfl (by decide) ?_
    refine G_callV (q := 56) (d' := 5) (f := 8) (i := 0) (As := [.int a1, .int (1 : Int32)]) (rest := [.int r8]) (stk := fun r12 => [.int r12, .int r8]) cx dX8_tellsAct_53 rfl cf_8 (Nat.le_of_ble_eq_true rfl) ml_RX8_391 rfl rfl (Nat.le_of_ble_eq_true rfl) (Nat.le_of_ble_eq_true rfl) (Nat.le_of_ble_eq_true rfl) (c_X8_climbsAct l hJ  _ a1 (1 : Int32)) (fun _ => rfl) (fun r12 S13 h14 o15 => ?_)
    refine G_iadd (q := 57) cx dX8_tellsAct_56 rfl ?_
    exact G_iret cx rfl dX8_tellsAct_57 trivial
  refine G_case (fun w16 => ?_) (fun w16 => ?_)
  · refine G_tswIn (t := 58) (off := 52) cx dX8_tellsAct_6 w16 (by decide) (by decide) (by decide) (by decide) ?_
    refine G_aload_n (q := 59) cx dX8_tellsAct_58 rfl rfl ?_
    refine G_bipush (q := 61) (v := (60 : Int32)) cx dX8_tellsAct_59 rfl (by decide) ?_
    refine G_callV (q := 64) (d' := 0) (f := 8) (i := 0) (As := [.int (60 : Int32)]) (rest := []) (stk := fun _ => []) cx dX8_tellsAct_61 rfl cf_8 (Nat.le_of_ble_eq_true rfl) ml_RX8_376 rfl rfl (Nat.le_of_ble_eq_true rfl) (Nat.le_of_ble_eq_true rfl) (Nat.le_of_ble_eq_true rfl) (c_X8_body l hJ  _ (60 : Int32)) (fun _ => rfl) (fun r17 S18 h19 o20 => ?_)
    refine G_aload_n (q := 65) cx dX8_tellsAct_64 rfl rfl ?_
    refine G_iload_n (q := 66) cx dX8_tellsAct_65 rfl rfl ?_
    refine G_iload_n (q := 67) cx dX8_tellsAct_66 rfl rfl ?_
    refine G_iload_n (q := 68) cx dX8_tellsAct_67 rfl rfl ?_
    refine G_isub (q := 69) cx dX8_tellsAct_68 rfl ?_
    refine G_callV (q := 72) (d' := 6) (f := 8) (i := 0) (As := [.int a1, .int (a2 - a1)]) (rest := []) (stk := fun r21 => [.int r21]) cx dX8_tellsAct_69 rfl cf_8 (Nat.le_of_ble_eq_true rfl) ml_RX8_394 rfl rfl (Nat.le_of_ble_eq_true rfl) (Nat.le_of_ble_eq_true rfl) (Nat.le_of_ble_eq_true rfl) (c_X8_liftTells l hJ  _ a1 (a2 - a1)) (fun _ => rfl) (fun r21 S22 h23 o24 => ?_)
    exact G_iret cx rfl dX8_tellsAct_72 trivial
  refine G_case (fun w25 => ?_) (fun w25 => ?_)
  · refine G_tswIn (t := 36) (off := 30) cx dX8_tellsAct_6 w25 (by decide) (by decide) (by decide) (by decide) ?_
    refine G_aload_n (q := 37) cx dX8_tellsAct_36 rfl rfl ?_
    refine G_bipush (q := 39) (v := (40 : Int32)) cx dX8_tellsAct_37 rfl (by decide) ?_
    refine G_callV (q := 42) (d' := 0) (f := 8) (i := 0) (As := [.int (40 : Int32)]) (rest := []) (stk := fun _ => []) cx dX8_tellsAct_39 rfl cf_8 (Nat.le_of_ble_eq_true rfl) ml_RX8_376 rfl rfl (Nat.le_of_ble_eq_true rfl) (Nat.le_of_ble_eq_true rfl) (Nat.le_of_ble_eq_true rfl) (c_X8_body l hJ  _ (40 : Int32)) (fun _ => rfl) (fun r26 S27 h28 o29 => ?_)
    refine G_aload_n (q := 43) cx dX8_tellsAct_42 rfl rfl ?_
    refine G_iload_n (q := 44) cx dX8_tellsAct_43 rfl rfl ?_
    refine G_iload_n (q := 45) cx dX8_tellsAct_44 rfl rfl ?_
    refine G_callV (q := 48) (d' := 6) (f := 8) (i := 0) (As := [.int a1, .int a2]) (rest := []) (stk := fun r30 => [.int r30]) cx dX8_tellsAct_45 rfl cf_8 (Nat.le_of_ble_eq_true rfl) ml_RX8_394 rfl rfl (Nat.le_of_ble_eq_true rfl) (Nat.le_of_ble_eq_true rfl) (Nat.le_of_ble_eq_true rfl) (c_X8_liftTells l hJ  _ a1 a2) (fun _ => rfl) (fun r30 S31 h32 o33 => ?_)
    refine G_istore_n (q := 49) (ls' := [(3, .int r30), (0, .ref (ad 8 0)), (1, .int a1), (2, .int a2)]) cx dX8_tellsAct_48 rfl rfl (Nat.le_of_ble_eq_true rfl) rfl ?_
    refine G_iload_n (q := 50) cx dX8_tellsAct_49 rfl rfl ?_
    refine G_aload_n (q := 51) cx dX8_tellsAct_50 rfl rfl ?_
    refine G_iload_n (q := 52) cx dX8_tellsAct_51 rfl rfl ?_
    refine G_iconst (q := 53) (v := (1 : Int32)) cx dX8_tellsAct_52 rfl (by decide) ?_
    refine G_callV (q := 56) (d' := 5) (f := 8) (i := 0) (As := [.int a1, .int (1 : Int32)]) (rest := [.int r30]) (stk := fun r34 => [.int r34, .int r30]) cx dX8_tellsAct_53 rfl cf_8 (Nat.le_of_ble_eq_true rfl) ml_RX8_391 rfl rfl (Nat.le_of_ble_eq_true rfl) (Nat.le_of_ble_eq_true rfl) (Nat.le_of_ble_eq_true rfl) (c_X8_climbsAct l hJ  _ a1 (1 : Int32)) (fun _ => rfl) (fun r34 S35 h36 o37 => ?_)
    refine G_iadd (q := 57) cx dX8_tellsAct_56 rfl ?_
    exact G_iret cx rfl dX8_tellsAct_57 trivial
  have hz6_0 := lv_neT w3 (show (3 : Int32).toInt = 3 by decide)
  have hz6_1 := lv_neT w16 (show (5 : Int32).toInt = 5 by decide)
  have hz6_2 := lv_neT w25 (show (6 : Int32).toInt = 6 by decide)
  refine G_tswDef (t := 73) cx dX8_tellsAct_6 (fun u1 u2 => by rcases (show (gI S 22 0 a1.toNatClampNeg).toInt = 4 by omega) with u <;> (rw [u]; decide)) (by decide) ?_
  refine G_aload_n (q := 74) cx dX8_tellsAct_73 rfl rfl ?_
  refine G_iload_n (q := 75) cx dX8_tellsAct_74 rfl rfl ?_
  refine G_iload_n (q := 76) cx dX8_tellsAct_75 rfl rfl ?_
  refine G_callV (q := 79) (d' := 6) (f := 8) (i := 0) (As := [.int a1, .int a2]) (rest := []) (stk := fun r38 => [.int r38]) cx dX8_tellsAct_76 rfl cf_8 (Nat.le_of_ble_eq_true rfl) ml_RX8_394 rfl rfl (Nat.le_of_ble_eq_true rfl) (Nat.le_of_ble_eq_true rfl) (Nat.le_of_ble_eq_true rfl) (c_X8_liftTells l hJ  _ a1 a2) (fun _ => rfl) (fun r38 S39 h40 o41 => ?_)
  exact G_iret cx rfl dX8_tellsAct_79 trivial
def F_X8_act (S : St) (a1 : Int32) (a2 : Int32) (a3 : Int32) : Option (Int32 × St) :=
  bnd (F_X8_isLift (sI S 8 0 65 (0 : Int32)) a1) (fun r1 S2 =>
  if r1 = 0 then (some ((0 : Int32), S2))
  else (bnd (F_X8_in S2 a2 (0 : Int32) (2 : Int32)) (fun r6 S7 =>
  if r6 = 0 then (some ((0 : Int32), S7))
  else (if a2 = 0 then (bnd (F_X8_turnsAct S7 a1 a3) (fun r21 S22 =>
  some (r21, S22)))
  else (if a2 = (1 : Int32) then (bnd (F_X8_climbsAct S7 a1 a3) (fun r17 S18 =>
  some (r17, S18)))
  else (bnd (F_X8_tellsAct S7 a1 a3) (fun r13 S14 =>
  some (r13, S14))))))))
set_option maxRecDepth 10000 in
theorem c_X8_act (l : Launch) {D : va_G} {cy : Nat → ClassId} {ad : Nat → Nat → Nat} (hJ : wJ ad nM) (S : St) (a1 : Int32) (a2 : Int32) (a3 : Int32) : CT l yX8_act cX8_act 4 (some .int) 8 D cy ad nM toI okT [.ref (ad 8 0), .int a1, .int a2, .int a3] S (F_X8_act S a1 a2 a3) := by
  refine CT.of RX8 (by decide) rfl hJ (Nat.le_of_ble_eq_true rfl) rfl ?_
  intro p e s m below meth c cx
  unfold F_X8_act
  refine G_aload_n (q := 1) cx dX8_act_0 rfl rfl ?_
  refine G_iconst (q := 2) (v := (0 : Int32)) cx dX8_act_1 rfl (by decide) ?_
  refine G_puti (q := 5) cx dX8_act_2 rfl cf_8 fl_RX8_208 (Nat.le_of_ble_eq_true rfl) rfl rfl rfl rfl rfl (Nat.le_of_ble_eq_true rfl) ?_
  refine G_aload_n (q := 6) cx dX8_act_5 rfl rfl ?_
  refine G_iload_n (q := 7) cx dX8_act_6 rfl rfl ?_
  refine G_callV (q := 10) (d' := 1) (f := 8) (i := 0) (As := [.int a1]) (rest := []) (stk := fun r1 => [.int r1]) cx dX8_act_7 rfl cf_8 (Nat.le_of_ble_eq_true rfl) ml_RX8_235 rfl rfl (Nat.le_of_ble_eq_true rfl) (Nat.le_of_ble_eq_true rfl) (Nat.le_of_ble_eq_true rfl) (c_X8_isLift l hJ  _ a1) (fun _ => rfl) (fun r1 S2 h3 o4 => ?_)
  refine G_if_eq (q := 13) (t := 23) cx dX8_act_10 rfl (by decide) (fun c5 => ?_) (fun c5 => ?_)
  · refine G_iconst (q := 24) (v := (0 : Int32)) cx dX8_act_23 rfl (by decide) ?_
    exact G_iret cx rfl dX8_act_24 trivial
  refine G_aload_n (q := 14) cx dX8_act_13 rfl rfl ?_
  refine G_iload_n (q := 15) cx dX8_act_14 rfl rfl ?_
  refine G_iconst (q := 16) (v := (0 : Int32)) cx dX8_act_15 rfl (by decide) ?_
  refine G_iconst (q := 17) (v := (2 : Int32)) cx dX8_act_16 rfl (by decide) ?_
  refine G_callV (q := 20) (d' := 0) (f := 8) (i := 0) (As := [.int a2, .int (0 : Int32), .int (2 : Int32)]) (rest := []) (stk := fun r6 => [.int r6]) cx dX8_act_17 rfl cf_8 (Nat.le_of_ble_eq_true rfl) ml_RX8_227 rfl rfl (Nat.le_of_ble_eq_true rfl) (Nat.le_of_ble_eq_true rfl) (Nat.le_of_ble_eq_true rfl) (c_X8_in l hJ  _ a2 (0 : Int32) (2 : Int32)) (fun _ => rfl) (fun r6 S7 h8 o9 => ?_)
  refine G_if_ne (q := 23) (t := 25) cx dX8_act_20 rfl (by decide) (fun c10 => ?_) (fun c10 => ?_)
  · refine G_iload_n (q := 26) cx dX8_act_25 rfl rfl ?_
    refine G_if_ne (q := 29) (t := 38) cx dX8_act_26 rfl (by decide) (fun c11 => ?_) (fun c11 => ?_)
    · refine G_iload_n (q := 39) cx dX8_act_38 rfl rfl ?_
      refine G_iconst (q := 40) (v := (1 : Int32)) cx dX8_act_39 rfl (by decide) ?_
      refine G_icmp_ne (q := 43) (t := 52) cx dX8_act_40 rfl (by decide) (fun c12 => ?_) (fun c12 => ?_)
      · refine G_aload_n (q := 53) cx dX8_act_52 rfl rfl ?_
        refine G_iload_n (q := 54) cx dX8_act_53 rfl rfl ?_
        refine G_iload_n (q := 55) cx dX8_act_54 rfl rfl ?_
        refine G_callV (q := 58) (d' := 7) (f := 8) (i := 0) (As := [.int a1, .int a3]) (rest := []) (stk := fun r13 => [.int r13]) cx dX8_act_55 rfl cf_8 (Nat.le_of_ble_eq_true rfl) ml_RX8_397 rfl rfl (Nat.le_of_ble_eq_true rfl) (Nat.le_of_ble_eq_true rfl) (Nat.le_of_ble_eq_true rfl) (c_X8_tellsAct l hJ  _ a1 a3) (fun _ => rfl) (fun r13 S14 h15 o16 => ?_)
        exact G_iret cx rfl dX8_act_58 trivial
      refine G_aload_n (q := 44) cx dX8_act_43 rfl rfl ?_
      refine G_iload_n (q := 45) cx dX8_act_44 rfl rfl ?_
      refine G_iload_n (q := 46) cx dX8_act_45 rfl rfl ?_
      refine G_callV (q := 49) (d' := 5) (f := 8) (i := 0) (As := [.int a1, .int a3]) (rest := []) (stk := fun r17 => [.int r17]) cx dX8_act_46 rfl cf_8 (Nat.le_of_ble_eq_true rfl) ml_RX8_391 rfl rfl (Nat.le_of_ble_eq_true rfl) (Nat.le_of_ble_eq_true rfl) (Nat.le_of_ble_eq_true rfl) (c_X8_climbsAct l hJ  _ a1 a3) (fun _ => rfl) (fun r17 S18 h19 o20 => ?_)
      refine G_goto (t := 58) cx dX8_act_49 (by decide) ?_
      exact G_iret cx rfl dX8_act_58 trivial
    refine G_aload_n (q := 30) cx dX8_act_29 rfl rfl ?_
    refine G_iload_n (q := 31) cx dX8_act_30 rfl rfl ?_
    refine G_iload_n (q := 32) cx dX8_act_31 rfl rfl ?_
    refine G_callV (q := 35) (d' := 2) (f := 8) (i := 0) (As := [.int a1, .int a3]) (rest := []) (stk := fun r21 => [.int r21]) cx dX8_act_32 rfl cf_8 (Nat.le_of_ble_eq_true rfl) ml_RX8_382 rfl rfl (Nat.le_of_ble_eq_true rfl) (Nat.le_of_ble_eq_true rfl) (Nat.le_of_ble_eq_true rfl) (c_X8_turnsAct l hJ  _ a1 a3) (fun _ => rfl) (fun r21 S22 h23 o24 => ?_)
    refine G_goto (t := 58) cx dX8_act_35 (by decide) ?_
    exact G_iret cx rfl dX8_act_58 trivial
  · refine G_iconst (q := 24) (v := (0 : Int32)) cx dX8_act_23 rfl (by decide) ?_
    exact G_iret cx rfl dX8_act_24 trivial
def F_X8_trace (S : St) (a1 : Int32) : Option (Int32 × St) :=
  bnd (F_X8_in S a1 (0 : Int32) (19 : Int32)) (fun r1 S2 =>
  if r1 = 0 then (some ((-1 : Int32), S2))
  else (if (gI S2 8 0 65) ≤ a1 then (some ((-1 : Int32), S2))
  else (if 0 ≤ a1 ∧ a1.toNatClampNeg < 20 then (some (gI S2 52 0 a1.toNatClampNeg, S2))
  else none)))
set_option maxRecDepth 10000 in
theorem c_X8_trace (l : Launch) {D : va_G} {cy : Nat → ClassId} {ad : Nat → Nat → Nat} (hJ : wJ ad nM) (S : St) (a1 : Int32) : CT l yX8_trace cX8_trace 2 (some .int) 1 D cy ad nM toI okT [.ref (ad 8 0), .int a1] S (F_X8_trace S a1) := by
  refine CT.of RX8 (by decide) rfl hJ (Nat.le_of_ble_eq_true rfl) rfl ?_
  intro p e s m below meth c cx
  unfold F_X8_trace
  refine G_aload_n (q := 1) cx dX8_trace_0 rfl rfl ?_
  refine G_iload_n (q := 2) cx dX8_trace_1 rfl rfl ?_
  refine G_iconst (q := 3) (v := (0 : Int32)) cx dX8_trace_2 rfl (by decide) ?_
  refine G_bipush (q := 5) (v := (19 : Int32)) cx dX8_trace_3 rfl (by decide) ?_
  refine G_callV (q := 8) (d' := 0) (f := 8) (i := 0) (As := [.int a1, .int (0 : Int32), .int (19 : Int32)]) (rest := []) (stk := fun r1 => [.int r1]) cx dX8_trace_5 rfl cf_8 (Nat.le_of_ble_eq_true rfl) ml_RX8_227 rfl rfl (Nat.le_of_ble_eq_true rfl) (Nat.le_of_ble_eq_true rfl) (Nat.le_of_ble_eq_true rfl) (c_X8_in l hJ  _ a1 (0 : Int32) (19 : Int32)) (fun _ => rfl) (fun r1 S2 h3 o4 => ?_)
  refine G_if_eq (q := 11) (t := 28) cx dX8_trace_8 rfl (by decide) (fun c5 => ?_) (fun c5 => ?_)
  · refine G_iconst (q := 29) (v := (-1 : Int32)) cx dX8_trace_28 rfl (by decide) ?_
    exact G_iret cx rfl dX8_trace_29 trivial
  refine G_iload_n (q := 12) cx dX8_trace_11 rfl rfl ?_
  refine G_aload_n (q := 13) cx dX8_trace_12 rfl rfl ?_
  refine G_geti (q := 16) cx dX8_trace_13 rfl cf_8 fl_RX8_208 (Nat.le_of_ble_eq_true rfl) rfl (Nat.le_of_ble_eq_true rfl) ?_
  refine G_icmp_ge (q := 19) (t := 28) cx dX8_trace_16 rfl (by decide) (fun c6 => ?_) (fun c6 => ?_)
  · refine G_iconst (q := 29) (v := (-1 : Int32)) cx dX8_trace_28 rfl (by decide) ?_
    exact G_iret cx rfl dX8_trace_29 trivial
  refine G_aload_n (q := 20) cx dX8_trace_19 rfl rfl ?_
  refine G_getr (q := 23) (g := 52) (i' := 0) cx dX8_trace_20 rfl cf_8 fl_RX8_211 (Nat.le_of_ble_eq_true rfl) rfl rfl (Nat.le_of_ble_eq_true rfl) ?_
  refine G_iload_n (q := 24) cx dX8_trace_23 rfl rfl ?_
  refine G_iald (q := 25) cx dX8_trace_24 rfl (by decide) rfl rfl (Nat.le_of_ble_eq_true rfl) (fun g7 g8 => ?_)
  refine G_goto (t := 29) cx dX8_trace_25 (by decide) ?_
  exact G_iret cx rfl dX8_trace_29 trivial
def F_X8_taken (S : St) (a1 : Int32) (a2 : Int32) : Option (Int32 × St) :=
  bnd (F_X8_in S a2 (0 : Int32) (6 : Int32)) (fun r1 S2 =>
  if r1 = 0 then (some ((-2 : Int32), S2))
  else (bnd (F_X8_isLift S2 a1) (fun r6 S7 =>
  if r6 = 0 then (some ((-11 : Int32), S7))
  else (if 0 ≤ a1 ∧ a1.toNatClampNeg < 6 then (if a2 = 0 then (some (gI S7 22 0 a1.toNatClampNeg, S7))
  else (if (gI S7 22 0 a1.toNatClampNeg) = a2 then (some (gI S7 22 0 a1.toNatClampNeg, S7))
  else (if a2 = (1 : Int32) then (if (gI S7 22 0 a1.toNatClampNeg) = (4 : Int32) then (some (gI S7 22 0 a1.toNatClampNeg, S7))
  else (if a2 = (2 : Int32) then (if (gI S7 22 0 a1.toNatClampNeg) = (5 : Int32) then (some (gI S7 22 0 a1.toNatClampNeg, S7))
  else (if a2 = (3 : Int32) then (if (gI S7 22 0 a1.toNatClampNeg) = (6 : Int32) then (some (gI S7 22 0 a1.toNatClampNeg, S7))
  else (some ((-12 : Int32), S7)))
  else (some ((-12 : Int32), S7))))
  else (if a2 = (3 : Int32) then (if (gI S7 22 0 a1.toNatClampNeg) = (6 : Int32) then (some (gI S7 22 0 a1.toNatClampNeg, S7))
  else (some ((-12 : Int32), S7)))
  else (some ((-12 : Int32), S7)))))
  else (if a2 = (2 : Int32) then (if (gI S7 22 0 a1.toNatClampNeg) = (5 : Int32) then (some (gI S7 22 0 a1.toNatClampNeg, S7))
  else (if a2 = (3 : Int32) then (if (gI S7 22 0 a1.toNatClampNeg) = (6 : Int32) then (some (gI S7 22 0 a1.toNatClampNeg, S7))
  else (some ((-12 : Int32), S7)))
  else (some ((-12 : Int32), S7))))
  else (if a2 = (3 : Int32) then (if (gI S7 22 0 a1.toNatClampNeg) = (6 : Int32) then (some (gI S7 22 0 a1.toNatClampNeg, S7))
  else (some ((-12 : Int32), S7)))
  else (some ((-12 : Int32), S7)))))))
  else none))))
set_option maxRecDepth 10000 in
theorem c_X8_taken (l : Launch) {D : va_G} {cy : Nat → ClassId} {ad : Nat → Nat → Nat} (hJ : wJ ad nM) (S : St) (a1 : Int32) (a2 : Int32) : CT l yX8_taken cX8_taken 4 (some .int) 2 D cy ad nM toI okT [.ref (ad 8 0), .int a1, .int a2] S (F_X8_taken S a1 a2) := by
  refine CT.of RX8 (by decide) rfl hJ (Nat.le_of_ble_eq_true rfl) rfl ?_
  intro p e s m below meth c cx
  unfold F_X8_taken
  refine G_aload_n (q := 1) cx dX8_taken_0 rfl rfl ?_
  refine G_iload_n (q := 2) cx dX8_taken_1 rfl rfl ?_
  refine G_iconst (q := 3) (v := (0 : Int32)) cx dX8_taken_2 rfl (by decide) ?_
  refine G_bipush (q := 5) (v := (6 : Int32)) cx dX8_taken_3 rfl (by decide) ?_
  refine G_callV (q := 8) (d' := 0) (f := 8) (i := 0) (As := [.int a2, .int (0 : Int32), .int (6 : Int32)]) (rest := []) (stk := fun r1 => [.int r1]) cx dX8_taken_5 rfl cf_8 (Nat.le_of_ble_eq_true rfl) ml_RX8_227 rfl rfl (Nat.le_of_ble_eq_true rfl) (Nat.le_of_ble_eq_true rfl) (Nat.le_of_ble_eq_true rfl) (c_X8_in l hJ  _ a2 (0 : Int32) (6 : Int32)) (fun _ => rfl) (fun r1 S2 h3 o4 => ?_)
  refine G_if_ne (q := 11) (t := 14) cx dX8_taken_8 rfl (by decide) (fun c5 => ?_) (fun c5 => ?_)
  · refine G_aload_n (q := 15) cx dX8_taken_14 rfl rfl ?_
    refine G_iload_n (q := 16) cx dX8_taken_15 rfl rfl ?_
    refine G_callV (q := 19) (d' := 1) (f := 8) (i := 0) (As := [.int a1]) (rest := []) (stk := fun r6 => [.int r6]) cx dX8_taken_16 rfl cf_8 (Nat.le_of_ble_eq_true rfl) ml_RX8_235 rfl rfl (Nat.le_of_ble_eq_true rfl) (Nat.le_of_ble_eq_true rfl) (Nat.le_of_ble_eq_true rfl) (c_X8_isLift l hJ  _ a1) (fun _ => rfl) (fun r6 S7 h8 o9 => ?_)
    refine G_if_ne (q := 22) (t := 25) cx dX8_taken_19 rfl (by decide) (fun c10 => ?_) (fun c10 => ?_)
    · refine G_aload_n (q := 26) cx dX8_taken_25 rfl rfl ?_
      refine G_getr (q := 29) (g := 22) (i' := 0) cx dX8_taken_26 rfl cf_8 fl_RX8_28 (Nat.le_of_ble_eq_true rfl) rfl rfl (Nat.le_of_ble_eq_true rfl) ?_
      refine G_iload_n (q := 30) cx dX8_taken_29 rfl rfl ?_
      refine G_iald (q := 31) cx dX8_taken_30 rfl (by decide) rfl rfl (Nat.le_of_ble_eq_true rfl) (fun g11 g12 => ?_)
      refine G_istore_n (q := 32) (ls' := [(3, .int (gI S7 22 0 a1.toNatClampNeg)), (0, .ref (ad 8 0)), (1, .int a1), (2, .int a2)]) cx dX8_taken_31 rfl rfl (Nat.le_of_ble_eq_true rfl) rfl ?_
      refine G_iload_n (q := 33) cx dX8_taken_32 rfl rfl ?_
      refine G_if_eq (q := 36) (t := 72) cx dX8_taken_33 rfl (by decide) (fun c13 => ?_) (fun c13 => ?_)
      · refine G_iload_n (q := 73) cx dX8_taken_72 rfl rfl ?_
        refine G_goto (t := 78) cx dX8_taken_73 (by decide) ?_
        exact G_iret cx rfl dX8_taken_78 trivial
      refine G_iload_n (q := 37) cx dX8_taken_36 rfl rfl ?_
      refine G_iload_n (q := 38) cx dX8_taken_37 rfl rfl ?_
      refine G_icmp_eq (q := 41) (t := 72) cx dX8_taken_38 rfl (by decide) (fun c14 => ?_) (fun c14 => ?_)
      · refine G_iload_n (q := 73) cx dX8_taken_72 rfl rfl ?_
        refine G_goto (t := 78) cx dX8_taken_73 (by decide) ?_
        exact G_iret cx rfl dX8_taken_78 trivial
      refine G_iload_n (q := 42) cx dX8_taken_41 rfl rfl ?_
      refine G_iconst (q := 43) (v := (1 : Int32)) cx dX8_taken_42 rfl (by decide) ?_
      refine G_icmp_ne (q := 46) (t := 51) cx dX8_taken_43 rfl (by decide) (fun c15 => ?_) (fun c15 => ?_)
      · refine G_iload_n (q := 52) cx dX8_taken_51 rfl rfl ?_
        refine G_iconst (q := 53) (v := (2 : Int32)) cx dX8_taken_52 rfl (by decide) ?_
        refine G_icmp_ne (q := 56) (t := 61) cx dX8_taken_53 rfl (by decide) (fun c16 => ?_) (fun c16 => ?_)
        · refine G_iload_n (q := 62) cx dX8_taken_61 rfl rfl ?_
          refine G_iconst (q := 63) (v := (3 : Int32)) cx dX8_taken_62 rfl (by decide) ?_
          refine G_icmp_ne (q := 66) (t := 76) cx dX8_taken_63 rfl (by decide) (fun c17 => ?_) (fun c17 => ?_)
          · refine G_bipush (q := 78) (v := (-12 : Int32)) cx dX8_taken_76 rfl (by decide) ?_
            exact G_iret cx rfl dX8_taken_78 trivial
          refine G_iload_n (q := 67) cx dX8_taken_66 rfl rfl ?_
          refine G_bipush (q := 69) (v := (6 : Int32)) cx dX8_taken_67 rfl (by decide) ?_
          refine G_icmp_ne (q := 72) (t := 76) cx dX8_taken_69 rfl (by decide) (fun c18 => ?_) (fun c18 => ?_)
          · refine G_bipush (q := 78) (v := (-12 : Int32)) cx dX8_taken_76 rfl (by decide) ?_
            exact G_iret cx rfl dX8_taken_78 trivial
          · refine G_iload_n (q := 73) cx dX8_taken_72 rfl rfl ?_
            refine G_goto (t := 78) cx dX8_taken_73 (by decide) ?_
            exact G_iret cx rfl dX8_taken_78 trivial
        refine G_iload_n (q := 57) cx dX8_taken_56 rfl rfl ?_
        refine G_iconst (q := 58) (v := (5 : Int32)) cx dX8_taken_57 rfl (by decide) ?_
        refine G_icmp_eq (q := 61) (t := 72) cx dX8_taken_58 rfl (by decide) (fun c19 => ?_) (fun c19 => ?_)
        · refine G_iload_n (q := 73) cx dX8_taken_72 rfl rfl ?_
          refine G_goto (t := 78) cx dX8_taken_73 (by decide) ?_
          exact G_iret cx rfl dX8_taken_78 trivial
        refine G_iload_n (q := 62) cx dX8_taken_61 rfl rfl ?_
        refine G_iconst (q := 63) (v := (3 : Int32)) cx dX8_taken_62 rfl (by decide) ?_
        refine G_icmp_ne (q := 66) (t := 76) cx dX8_taken_63 rfl (by decide) (fun c20 => ?_) (fun c20 => ?_)
        · refine G_bipush (q := 78) (v := (-12 : Int32)) cx dX8_taken_76 rfl (by decide) ?_
          exact G_iret cx rfl dX8_taken_78 trivial
        refine G_iload_n (q := 67) cx dX8_taken_66 rfl rfl ?_
        refine G_bipush (q := 69) (v := (6 : Int32)) cx dX8_taken_67 rfl (by decide) ?_
        refine G_icmp_ne (q := 72) (t := 76) cx dX8_taken_69 rfl (by decide) (fun c21 => ?_) (fun c21 => ?_)
        · refine G_bipush (q := 78) (v := (-12 : Int32)) cx dX8_taken_76 rfl (by decide) ?_
          exact G_iret cx rfl dX8_taken_78 trivial
        · refine G_iload_n (q := 73) cx dX8_taken_72 rfl rfl ?_
          refine G_goto (t := 78) cx dX8_taken_73 (by decide) ?_
          exact G_iret cx rfl dX8_taken_78 trivial
      refine G_iload_n (q := 47) cx dX8_taken_46 rfl rfl ?_
      refine G_iconst (q := 48) (v := (4 : Int32)) cx dX8_taken_47 rfl (by decide) ?_
      refine G_icmp_eq (q := 51) (t := 72) cx dX8_taken_48 rfl (by decide) (fun c22 => ?_) (fun c22 => ?_)
      · refine G_iload_n (q := 73) cx dX8_taken_72 rfl rfl ?_
        refine G_goto (t := 78) cx dX8_taken_73 (by decide) ?_
        exact G_iret cx rfl dX8_taken_78 trivial
      refine G_iload_n (q := 52) cx dX8_taken_51 rfl rfl ?_
      refine G_iconst (q := 53) (v := (2 : Int32)) cx dX8_taken_52 rfl (by decide) ?_
      refine G_icmp_ne (q := 56) (t := 61) cx dX8_taken_53 rfl (by decide) (fun c23 => ?_) (fun c23 => ?_)
      · refine G_iload_n (q := 62) cx dX8_taken_61 rfl rfl ?_
        refine G_iconst (q := 63) (v := (3 : Int32)) cx dX8_taken_62 rfl (by decide) ?_
        refine G_icmp_ne (q := 66) (t := 76) cx dX8_taken_63 rfl (by decide) (fun c24 => ?_) (fun c24 => ?_)
        · refine G_bipush (q := 78) (v := (-12 : Int32)) cx dX8_taken_76 rfl (by decide) ?_
          exact G_iret cx rfl dX8_taken_78 trivial
        refine G_iload_n (q := 67) cx dX8_taken_66 rfl rfl ?_
        refine G_bipush (q := 69) (v := (6 : Int32)) cx dX8_taken_67 rfl (by decide) ?_
        refine G_icmp_ne (q := 72) (t := 76) cx dX8_taken_69 rfl (by decide) (fun c25 => ?_) (fun c25 => ?_)
        · refine G_bipush (q := 78) (v := (-12 : Int32)) cx dX8_taken_76 rfl (by decide) ?_
          exact G_iret cx rfl dX8_taken_78 trivial
        · refine G_iload_n (q := 73) cx dX8_taken_72 rfl rfl ?_
          refine G_goto (t := 78) cx dX8_taken_73 (by decide) ?_
          exact G_iret cx rfl dX8_taken_78 trivial
      refine G_iload_n (q := 57) cx dX8_taken_56 rfl rfl ?_
      refine G_iconst (q := 58) (v := (5 : Int32)) cx dX8_taken_57 rfl (by decide) ?_
      refine G_icmp_eq (q := 61) (t := 72) cx dX8_taken_58 rfl (by decide) (fun c26 => ?_) (fun c26 => ?_)
      · refine G_iload_n (q := 73) cx dX8_taken_72 rfl rfl ?_
        refine G_goto (t := 78) cx dX8_taken_73 (by decide) ?_
        exact G_iret cx rfl dX8_taken_78 trivial
      refine G_iload_n (q := 62) cx dX8_taken_61 rfl rfl ?_
      refine G_iconst (q := 63) (v := (3 : Int32)) cx dX8_taken_62 rfl (by decide) ?_
      refine G_icmp_ne (q := 66) (t := 76) cx dX8_taken_63 rfl (by decide) (fun c27 => ?_) (fun c27 => ?_)
      · refine G_bipush (q := 78) (v := (-12 : Int32)) cx dX8_taken_76 rfl (by decide) ?_
        exact G_iret cx rfl dX8_taken_78 trivial
      refine G_iload_n (q := 67) cx dX8_taken_66 rfl rfl ?_
      refine G_bipush (q := 69) (v := (6 : Int32)) cx dX8_taken_67 rfl (by decide) ?_
      refine G_icmp_ne (q := 72) (t := 76) cx dX8_taken_69 rfl (by decide) (fun c28 => ?_) (fun c28 => ?_)
      · refine G_bipush (q := 78) (v := (-12 : Int32)) cx dX8_taken_76 rfl (by decide) ?_
        exact G_iret cx rfl dX8_taken_78 trivial
      · refine G_iload_n (q := 73) cx dX8_taken_72 rfl rfl ?_
        refine G_goto (t := 78) cx dX8_taken_73 (by decide) ?_
        exact G_iret cx rfl dX8_taken_78 trivial
    · refine G_bipush (q := 24) (v := (-11 : Int32)) cx dX8_taken_22 rfl (by decide) ?_
      exact G_iret cx rfl dX8_taken_24 trivial
  · refine G_bipush (q := 13) (v := (-2 : Int32)) cx dX8_taken_11 rfl (by decide) ?_
    exact G_iret cx rfl dX8_taken_13 trivial
