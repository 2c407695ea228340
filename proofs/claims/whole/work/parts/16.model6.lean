def F_X8_count (S : St) (a1 : Int32) : Option (Int32 × St) :=
  if a1 = 0 then (some (gI S 8 0 0, S))
  else (if a1 = 1 then (some (gI S 8 0 11, S))
  else (if a1 = 2 then (some (gI S 8 0 36, S))
  else (if a1 = 3 then (some (gI S 8 0 39, S))
  else (if a1 = 4 then (some (gI S 8 0 41, S))
  else (if a1 = 5 then (some (gI S 8 0 13, S))
  else (if a1 = 6 then (some (gI S 8 0 65, S))
  else (some ((-2 : Int32), S))))))))
set_option maxRecDepth 10000 in
theorem c_X8_count (l : Launch) {D : va_G} {cy : Nat → ClassId} {ad : Nat → Nat → Nat} (hJ : wJ ad nM) (S : St) (a1 : Int32) : CT l yX8_count cX8_count 2 (some .int) 0 D cy ad nM toI okT [.ref (ad 8 0), .int a1] S (F_X8_count S a1) := by
  refine CT.of RX8 (by decide) rfl hJ (Nat.le_of_ble_eq_true rfl) rfl ?_
  intro p e s m below meth c cx
  unfold F_X8_count
  refine G_iload_n (q := 1) cx dX8_count_0 rfl rfl ?_
  refine G_case (fun w1 => ?_) (fun w1 => ?_)
  · refine G_tswIn (t := 44) (off := 43) cx dX8_count_1 w1 (by decide) (by decide) (by decide) (by decide) ?_
    refine G_aload_n (q := 45) cx dX8_count_44 rfl rfl ?_
    refine G_geti (q := 48) cx dX8_count_45 rfl cf_8 fl_RX8_7 (Nat.le_of_ble_eq_true rfl) rfl (Nat.le_of_ble_eq_true rfl) ?_
    exact G_iret cx rfl dX8_count_48 trivial
  refine G_case (fun w2 => ?_) (fun w2 => ?_)
  · refine G_tswIn (t := 49) (off := 48) cx dX8_count_1 w2 (by decide) (by decide) (by decide) (by decide) ?_
    refine G_aload_n (q := 50) cx dX8_count_49 rfl rfl ?_
    refine G_geti (q := 53) cx dX8_count_50 rfl cf_8 fl_RX8_44 (Nat.le_of_ble_eq_true rfl) rfl (Nat.le_of_ble_eq_true rfl) ?_
    exact G_iret cx rfl dX8_count_53 trivial
  refine G_case (fun w3 => ?_) (fun w3 => ?_)
  · refine G_tswIn (t := 54) (off := 53) cx dX8_count_1 w3 (by decide) (by decide) (by decide) (by decide) ?_
    refine G_aload_n (q := 55) cx dX8_count_54 rfl rfl ?_
    refine G_geti (q := 58) cx dX8_count_55 rfl cf_8 fl_RX8_120 (Nat.le_of_ble_eq_true rfl) rfl (Nat.le_of_ble_eq_true rfl) ?_
    exact G_iret cx rfl dX8_count_58 trivial
  refine G_case (fun w4 => ?_) (fun w4 => ?_)
  · refine G_tswIn (t := 59) (off := 58) cx dX8_count_1 w4 (by decide) (by decide) (by decide) (by decide) ?_
    refine G_aload_n (q := 60) cx dX8_count_59 rfl rfl ?_
    refine G_geti (q := 63) cx dX8_count_60 rfl cf_8 fl_RX8_129 (Nat.le_of_ble_eq_true rfl) rfl (Nat.le_of_ble_eq_true rfl) ?_
    exact G_iret cx rfl dX8_count_63 trivial
  refine G_case (fun w5 => ?_) (fun w5 => ?_)
  · refine G_tswIn (t := 64) (off := 63) cx dX8_count_1 w5 (by decide) (by decide) (by decide) (by decide) ?_
    refine G_aload_n (q := 65) cx dX8_count_64 rfl rfl ?_
    refine G_geti (q := 68) cx dX8_count_65 rfl cf_8 fl_RX8_135 (Nat.le_of_ble_eq_true rfl) rfl (Nat.le_of_ble_eq_true rfl) ?_
    exact G_iret cx rfl dX8_count_68 trivial
  refine G_case (fun w6 => ?_) (fun w6 => ?_)
  · refine G_tswIn (t := 69) (off := 68) cx dX8_count_1 w6 (by decide) (by decide) (by decide) (by decide) ?_
    refine G_aload_n (q := 70) cx dX8_count_69 rfl rfl ?_
    refine G_geti (q := 73) cx dX8_count_70 rfl cf_8 fl_RX8_50 (Nat.le_of_ble_eq_true rfl) rfl (Nat.le_of_ble_eq_true rfl) ?_
    exact G_iret cx rfl dX8_count_73 trivial
  refine G_case (fun w7 => ?_) (fun w7 => ?_)
  · refine G_tswIn (t := 74) (off := 73) cx dX8_count_1 w7 (by decide) (by decide) (by decide) (by decide) ?_
    refine G_aload_n (q := 75) cx dX8_count_74 rfl rfl ?_
    refine G_geti (q := 78) cx dX8_count_75 rfl cf_8 fl_RX8_208 (Nat.le_of_ble_eq_true rfl) rfl (Nat.le_of_ble_eq_true rfl) ?_
    exact G_iret cx rfl dX8_count_78 trivial
  have hz1_0 := lv_neT w1 (show (0 : Int32).toInt = 0 by decide)
  have hz1_1 := lv_neT w2 (show (1 : Int32).toInt = 1 by decide)
  have hz1_2 := lv_neT w3 (show (2 : Int32).toInt = 2 by decide)
  have hz1_3 := lv_neT w4 (show (3 : Int32).toInt = 3 by decide)
  have hz1_4 := lv_neT w5 (show (4 : Int32).toInt = 4 by decide)
  have hz1_5 := lv_neT w6 (show (5 : Int32).toInt = 5 by decide)
  have hz1_6 := lv_neT w7 (show (6 : Int32).toInt = 6 by decide)
  refine G_tswOut (t := 79) cx dX8_count_1 (by omega) (by decide) ?_
  refine G_bipush (q := 81) (v := (-2 : Int32)) cx dX8_count_79 rfl (by decide) ?_
  exact G_iret cx rfl dX8_count_81 trivial
def L_X8_tape_69 (a1 : Int32) (K_18 : Int32 → St → Option (Int32 × St)) : Nat → Int32 → St → Option (Int32 × St)
  | 0, _, _ => none
  | n + 1, x4_18, S_18 =>
    if (60 : Int32) ≤ x4_18 then (K_18 x4_18 S_18)
    else (if 0 ≤ (((60 : Int32) * a1) + x4_18) ∧ (((60 : Int32) * a1) + x4_18).toNatClampNeg < 360 then (L_X8_tape_69 a1 K_18 n (x4_18 + 1) (sJ S_18 55 0 (((60 : Int32) * a1) + x4_18).toNatClampNeg (0 : Int64)))
    else none)
def L_X8_tape_69b (a1 : Int32) (K_24 : Int32 → St → Option (Int32 × St)) : Nat → Int32 → St → Option (Int32 × St)
  | 0, _, _ => none
  | n + 1, x4_24, S_24 =>
    if (60 : Int32) ≤ x4_24 then (K_24 x4_24 S_24)
    else (if 0 ≤ (((60 : Int32) * a1) + x4_24) ∧ (((60 : Int32) * a1) + x4_24).toNatClampNeg < 360 then (L_X8_tape_69b a1 K_24 n (x4_24 + 1) (sJ S_24 55 0 (((60 : Int32) * a1) + x4_24).toNatClampNeg (0 : Int64)))
    else none)
def L_X8_tape_69bb (a1 : Int32) (K_34 : Int32 → St → Option (Int32 × St)) : Nat → Int32 → St → Option (Int32 × St)
  | 0, _, _ => none
  | n + 1, x4_34, S_34 =>
    if (60 : Int32) ≤ x4_34 then (K_34 x4_34 S_34)
    else (if 0 ≤ (((60 : Int32) * a1) + x4_34) ∧ (((60 : Int32) * a1) + x4_34).toNatClampNeg < 360 then (L_X8_tape_69bb a1 K_34 n (x4_34 + 1) (sJ S_34 55 0 (((60 : Int32) * a1) + x4_34).toNatClampNeg (0 : Int64)))
    else none)
def L_X8_tape_69bbb (a1 : Int32) (K_40 : Int32 → St → Option (Int32 × St)) : Nat → Int32 → St → Option (Int32 × St)
  | 0, _, _ => none
  | n + 1, x4_40, S_40 =>
    if (60 : Int32) ≤ x4_40 then (K_40 x4_40 S_40)
    else (if 0 ≤ (((60 : Int32) * a1) + x4_40) ∧ (((60 : Int32) * a1) + x4_40).toNatClampNeg < 360 then (L_X8_tape_69bbb a1 K_40 n (x4_40 + 1) (sJ S_40 55 0 (((60 : Int32) * a1) + x4_40).toNatClampNeg (0 : Int64)))
    else none)
def L_X8_tape_69bbbb (a1 : Int32) (K_51 : Int32 → St → Option (Int32 × St)) : Nat → Int32 → St → Option (Int32 × St)
  | 0, _, _ => none
  | n + 1, x4_51, S_51 =>
    if (60 : Int32) ≤ x4_51 then (K_51 x4_51 S_51)
    else (if 0 ≤ (((60 : Int32) * a1) + x4_51) ∧ (((60 : Int32) * a1) + x4_51).toNatClampNeg < 360 then (L_X8_tape_69bbbb a1 K_51 n (x4_51 + 1) (sJ S_51 55 0 (((60 : Int32) * a1) + x4_51).toNatClampNeg (0 : Int64)))
    else none)
def L_X8_tape_69bbbbb (a1 : Int32) (K_57 : Int32 → St → Option (Int32 × St)) : Nat → Int32 → St → Option (Int32 × St)
  | 0, _, _ => none
  | n + 1, x4_57, S_57 =>
    if (60 : Int32) ≤ x4_57 then (K_57 x4_57 S_57)
    else (if 0 ≤ (((60 : Int32) * a1) + x4_57) ∧ (((60 : Int32) * a1) + x4_57).toNatClampNeg < 360 then (L_X8_tape_69bbbbb a1 K_57 n (x4_57 + 1) (sJ S_57 55 0 (((60 : Int32) * a1) + x4_57).toNatClampNeg (0 : Int64)))
    else none)
def L_X8_tape_69bbbbbb (a1 : Int32) (K_67 : Int32 → St → Option (Int32 × St)) : Nat → Int32 → St → Option (Int32 × St)
  | 0, _, _ => none
  | n + 1, x4_67, S_67 =>
    if (60 : Int32) ≤ x4_67 then (K_67 x4_67 S_67)
    else (if 0 ≤ (((60 : Int32) * a1) + x4_67) ∧ (((60 : Int32) * a1) + x4_67).toNatClampNeg < 360 then (L_X8_tape_69bbbbbb a1 K_67 n (x4_67 + 1) (sJ S_67 55 0 (((60 : Int32) * a1) + x4_67).toNatClampNeg (0 : Int64)))
    else none)
def L_X8_tape_69bbbbbbb (a1 : Int32) (K_73 : Int32 → St → Option (Int32 × St)) : Nat → Int32 → St → Option (Int32 × St)
  | 0, _, _ => none
  | n + 1, x4_73, S_73 =>
    if (60 : Int32) ≤ x4_73 then (K_73 x4_73 S_73)
    else (if 0 ≤ (((60 : Int32) * a1) + x4_73) ∧ (((60 : Int32) * a1) + x4_73).toNatClampNeg < 360 then (L_X8_tape_69bbbbbbb a1 K_73 n (x4_73 + 1) (sJ S_73 55 0 (((60 : Int32) * a1) + x4_73).toNatClampNeg (0 : Int64)))
    else none)
def F_X8_tape (S : St) (a1 : Int32) (a2 : Int32) (a3 : Int32) : Option (Int32 × St) :=
  bnd (F_X8_isTape S a1) (fun r1 S2 =>
  if r1 = 0 then (some ((-1 : Int32), S2))
  else (bnd (F_X8_in S2 a2 (-1 : Int32) (4 : Int32)) (fun r6 S7 =>
  if r6 = 0 then (some ((-2 : Int32), S7))
  else (if a2 < 0 then (if a2 < 0 then (if 0 ≤ a1 ∧ a1.toNatClampNeg < 6 then (if 0 ≤ a2 then (if 0 ≤ a1 ∧ a1.toNatClampNeg < 6 then (L_X8_tape_69 a1 
  (fun y4_18 T_18 => some ((1 : Int32), T_18)) 1000 (0 : Int32) (sI (sI S7 53 0 a1.toNatClampNeg a2) 54 0 a1.toNatClampNeg a3))
  else none)
  else (if 0 ≤ a1 ∧ a1.toNatClampNeg < 6 then (L_X8_tape_69b a1 
  (fun y4_24 T_24 => some ((1 : Int32), T_24)) 1000 (0 : Int32) (sI (sI S7 53 0 a1.toNatClampNeg a2) 54 0 a1.toNatClampNeg (0 : Int32)))
  else none))
  else none)
  else (if 0 ≤ a3 then (if 0 ≤ a1 ∧ a1.toNatClampNeg < 6 then (if 0 ≤ a2 then (if 0 ≤ a1 ∧ a1.toNatClampNeg < 6 then (L_X8_tape_69bb a1 
  (fun y4_34 T_34 => some ((1 : Int32), T_34)) 1000 (0 : Int32) (sI (sI S7 53 0 a1.toNatClampNeg a2) 54 0 a1.toNatClampNeg a3))
  else none)
  else (if 0 ≤ a1 ∧ a1.toNatClampNeg < 6 then (L_X8_tape_69bbb a1 
  (fun y4_40 T_40 => some ((1 : Int32), T_40)) 1000 (0 : Int32) (sI (sI S7 53 0 a1.toNatClampNeg a2) 54 0 a1.toNatClampNeg (0 : Int32)))
  else none))
  else none)
  else (some ((-14 : Int32), S7))))
  else (if a3 ≤ (60 : Int32) then (if a2 < 0 then (if 0 ≤ a1 ∧ a1.toNatClampNeg < 6 then (if 0 ≤ a2 then (if 0 ≤ a1 ∧ a1.toNatClampNeg < 6 then (L_X8_tape_69bbbb a1 
  (fun y4_51 T_51 => some ((1 : Int32), T_51)) 1000 (0 : Int32) (sI (sI S7 53 0 a1.toNatClampNeg a2) 54 0 a1.toNatClampNeg a3))
  else none)
  else (if 0 ≤ a1 ∧ a1.toNatClampNeg < 6 then (L_X8_tape_69bbbbb a1 
  (fun y4_57 T_57 => some ((1 : Int32), T_57)) 1000 (0 : Int32) (sI (sI S7 53 0 a1.toNatClampNeg a2) 54 0 a1.toNatClampNeg (0 : Int32)))
  else none))
  else none)
  else (if 0 ≤ a3 then (if 0 ≤ a1 ∧ a1.toNatClampNeg < 6 then (if 0 ≤ a2 then (if 0 ≤ a1 ∧ a1.toNatClampNeg < 6 then (L_X8_tape_69bbbbbb a1 
  (fun y4_67 T_67 => some ((1 : Int32), T_67)) 1000 (0 : Int32) (sI (sI S7 53 0 a1.toNatClampNeg a2) 54 0 a1.toNatClampNeg a3))
  else none)
  else (if 0 ≤ a1 ∧ a1.toNatClampNeg < 6 then (L_X8_tape_69bbbbbbb a1 
  (fun y4_73 T_73 => some ((1 : Int32), T_73)) 1000 (0 : Int32) (sI (sI S7 53 0 a1.toNatClampNeg a2) 54 0 a1.toNatClampNeg (0 : Int32)))
  else none))
  else none)
  else (some ((-14 : Int32), S7))))
  else (some ((-2 : Int32), S7)))))))
set_option maxRecDepth 10000 in
theorem c_X8_tape (l : Launch) {D : va_G} {cy : Nat → ClassId} {ad : Nat → Nat → Nat} (hJ : wJ ad nM) (S : St) (a1 : Int32) (a2 : Int32) (a3 : Int32) : CT l yX8_tape cX8_tape 5 (some .int) 2 D cy ad nM toI okT [.ref (ad 8 0), .int a1, .int a2, .int a3] S (F_X8_tape S a1 a2 a3) := by
  refine CT.of RX8 (by decide) rfl hJ (Nat.le_of_ble_eq_true rfl) rfl ?_
  intro p e s m below meth c cx
  unfold F_X8_tape
  refine G_aload_n (q := 1) cx dX8_tape_0 rfl rfl ?_
  refine G_iload_n (q := 2) cx dX8_tape_1 rfl rfl ?_
  refine G_callV (q := 5) (d' := 1) (f := 8) (i := 0) (As := [.int a1]) (rest := []) (stk := fun r1 => [.int r1]) cx dX8_tape_2 rfl cf_8 (Nat.le_of_ble_eq_true rfl) ml_RX8_373 rfl rfl (Nat.le_of_ble_eq_true rfl) (Nat.le_of_ble_eq_true rfl) (Nat.le_of_ble_eq_true rfl) (c_X8_isTape l hJ  _ a1) (fun _ => rfl) (fun r1 S2 h3 o4 => ?_)
  refine G_if_ne (q := 8) (t := 10) cx dX8_tape_5 rfl (by decide) (fun c5 => ?_) (fun c5 => ?_)
  · refine G_aload_n (q := 11) cx dX8_tape_10 rfl rfl ?_
    refine G_iload_n (q := 12) cx dX8_tape_11 rfl rfl ?_
    refine G_iconst (q := 13) (v := (-1 : Int32)) cx dX8_tape_12 rfl (by decide) ?_
    refine G_iconst (q := 14) (v := (4 : Int32)) cx dX8_tape_13 rfl (by decide) ?_
    refine G_callV (q := 17) (d' := 0) (f := 8) (i := 0) (As := [.int a2, .int (-1 : Int32), .int (4 : Int32)]) (rest := []) (stk := fun r6 => [.int r6]) cx dX8_tape_14 rfl cf_8 (Nat.le_of_ble_eq_true rfl) ml_RX8_227 rfl rfl (Nat.le_of_ble_eq_true rfl) (Nat.le_of_ble_eq_true rfl) (Nat.le_of_ble_eq_true rfl) (c_X8_in l hJ  _ a2 (-1 : Int32) (4 : Int32)) (fun _ => rfl) (fun r6 S7 h8 o9 => ?_)
    refine G_if_eq (q := 20) (t := 30) cx dX8_tape_17 rfl (by decide) (fun c10 => ?_) (fun c10 => ?_)
    · refine G_bipush (q := 32) (v := (-2 : Int32)) cx dX8_tape_30 rfl (by decide) ?_
      exact G_iret cx rfl dX8_tape_32 trivial
    refine G_iload_n (q := 21) cx dX8_tape_20 rfl rfl ?_
    refine G_if_lt (q := 24) (t := 33) cx dX8_tape_21 rfl (by decide) (fun c11 => ?_) (fun c11 => ?_)
    · refine G_iload_n (q := 34) cx dX8_tape_33 rfl rfl ?_
      refine G_if_lt (q := 37) (t := 44) cx dX8_tape_34 rfl (by decide) (fun c12 => ?_) (fun c12 => ?_)
      · refine G_aload_n (q := 45) cx dX8_tape_44 rfl rfl ?_
        refine G_getr (q := 48) (g := 53) (i' := 0) cx dX8_tape_45 rfl cf_8 fl_RX8_214 (Nat.le_of_ble_eq_true rfl) rfl rfl (Nat.le_of_ble_eq_true rfl) ?_
        refine G_iload_n (q := 49) cx dX8_tape_48 rfl rfl ?_
        refine G_iload_n (q := 50) cx dX8_tape_49 rfl rfl ?_
        refine G_iast (q := 51) cx dX8_tape_50 rfl (by decide) rfl rfl (Nat.le_of_ble_eq_true rfl) (fun g13 g14 => ?_)
        refine G_aload_n (q := 52) cx dX8_tape_51 rfl rfl ?_
        refine G_getr (q := 55) (g := 54) (i' := 0) cx dX8_tape_52 rfl cf_8 fl_RX8_217 (Nat.le_of_ble_eq_true rfl) rfl rfl (Nat.le_of_ble_eq_true rfl) ?_
        refine G_iload_n (q := 56) cx dX8_tape_55 rfl rfl ?_
        refine G_iload_n (q := 57) cx dX8_tape_56 rfl rfl ?_
        refine G_if_ge (q := 60) (t := 64) cx dX8_tape_57 rfl (by decide) (fun c15 => ?_) (fun c15 => ?_)
        · refine G_iload_n (q := 65) cx dX8_tape_64 rfl rfl ?_
          refine G_iast (q := 66) cx dX8_tape_65 rfl (by decide) rfl rfl (Nat.le_of_ble_eq_true rfl) (fun g16 g17 => ?_)
          refine G_iconst (q := 67) (v := (0 : Int32)) cx dX8_tape_66 rfl (by decide) ?_
          refine G_istore (q := 69) (ls' := [(4, .int (0 : Int32)), (0, .ref (ad 8 0)), (1, .int a1), (2, .int a2), (3, .int a3)]) cx dX8_tape_67 rfl (Nat.le_of_ble_eq_true rfl) rfl ?_
          have lp_18 : ∀ (K_18 : Int32 → St → Option (Int32 × St)) (hK_18 : ∀ (y4_18 : Int32) (T_18 : St), TG p l e 2 s m ([.ref (ad 8 0), .int a1, .int a2, .int a3] : List Value).toArray below meth c D cy ad nM toI okT T_18 95 [(4, .int y4_18), (0, .ref (ad 8 0)), (1, .int a1), (2, .int a2), (3, .int a3)] [] (K_18 y4_18 T_18)), ∀ (n_18 : Nat) (x4_18 : Int32) (S_18 : St), TG p l e 2 s m ([.ref (ad 8 0), .int a1, .int a2, .int a3] : List Value).toArray below meth c D cy ad nM toI okT S_18 69 [(4, .int x4_18), (0, .ref (ad 8 0)), (1, .int a1), (2, .int a2), (3, .int a3)] [] (L_X8_tape_69 a1 K_18 n_18 x4_18 S_18) := by
            intro K_18 hK_18 n_18
            induction n_18 with
            | zero => intros; exact G_none
            | succ n_18 ih_18 =>
              intro x4_18 S_18
              rw [L_X8_tape_69.eq_2]
              refine G_iload (q := 71) cx dX8_tape_69 rfl rfl ?_
              refine G_bipush (q := 73) (v := (60 : Int32)) cx dX8_tape_71 rfl (by decide) ?_
              refine G_icmp_ge (q := 76) (t := 95) cx dX8_tape_73 rfl (by decide) (fun c19 => ?_) (fun c19 => ?_)
              · exact G_loc [0, 1, 2, 3, 4] rfl (hK_18 x4_18 S_18)
              refine G_aload_n (q := 77) cx dX8_tape_76 rfl rfl ?_
              refine G_getr (q := 80) (g := 55) (i' := 0) cx dX8_tape_77 rfl cf_8 fl_RX8_220 (Nat.le_of_ble_eq_true rfl) rfl rfl (Nat.le_of_ble_eq_true rfl) ?_
              refine G_bipush (q := 82) (v := (60 : Int32)) cx dX8_tape_80 rfl (by decide) ?_
              refine G_iload_n (q := 83) cx dX8_tape_82 rfl rfl ?_
              refine G_imul (q := 84) cx dX8_tape_83 rfl ?_
              refine G_iload (q := 86) cx dX8_tape_84 rfl rfl ?_
              refine G_iadd (q := 87) cx dX8_tape_86 rfl ?_
              refine G_lconst (q := 88) (v := (0 : Int64)) cx dX8_tape_87 rfl (by decide) ?_
              refine G_last (q := 89) cx dX8_tape_88 rfl (by decide) rfl rfl (Nat.le_of_ble_eq_true rfl) (fun g20 g21 => ?_)
              refine G_iinc (q := 92) (j := 0) (v := x4_18 + 1) (ls' := [(4, .int (x4_18 + 1)), (0, .ref (ad 8 0)), (1, .int a1), (2, .int a2), (3, .int a3)]) cx dX8_tape_89 rfl rfl rfl (Nat.le_of_ble_eq_true rfl) rfl ?_
              refine G_goto (t := 69) cx dX8_tape_92 (by decide) ?_
              exact G_loc [0, 1, 2, 3, 4] rfl (ih_18 (x4_18 + 1) (sJ S_18 55 0 (((60 : Int32) * a1) + x4_18).toNatClampNeg (0 : Int64)))
          refine G_loc [0, 1, 2, 3, 4] rfl (lp_18 _ (fun y4_18 T_18 => ?_) 1000 (0 : Int32) (sI (sI S7 53 0 a1.toNatClampNeg a2) 54 0 a1.toNatClampNeg a3))
          refine G_iconst (q := 96) (v := (1 : Int32)) cx dX8_tape_95 rfl (by decide) ?_
          exact G_iret cx rfl dX8_tape_96 trivial
        refine G_iconst (q := 61) (v := (0 : Int32)) cx dX8_tape_60 rfl (by decide) ?_
        refine G_goto (t := 65) cx dX8_tape_61 (by decide) ?_
        refine G_iast (q := 66) cx dX8_tape_65 rfl (by decide) rfl rfl (Nat.le_of_ble_eq_true rfl) (fun g22 g23 => ?_)
        refine G_iconst (q := 67) (v := (0 : Int32)) cx dX8_tape_66 rfl (by decide) ?_
        refine G_istore (q := 69) (ls' := [(4, .int (0 : Int32)), (0, .ref (ad 8 0)), (1, .int a1), (2, .int a2), (3, .int a3)]) cx dX8_tape_67 rfl (Nat.le_of_ble_eq_true rfl) rfl ?_
        have lp_24 : ∀ (K_24 : Int32 → St → Option (Int32 × St)) (hK_24 : ∀ (y4_24 : Int32) (T_24 : St), TG p l e 2 s m ([.ref (ad 8 0), .int a1, .int a2, .int a3] : List Value).toArray below meth c D cy ad nM toI okT T_24 95 [(4, .int y4_24), (0, .ref (ad 8 0)), (1, .int a1), (2, .int a2), (3, .int a3)] [] (K_24 y4_24 T_24)), ∀ (n_24 : Nat) (x4_24 : Int32) (S_24 : St), TG p l e 2 s m ([.ref (ad 8 0), .int a1, .int a2, .int a3] : List Value).toArray below meth c D cy ad nM toI okT S_24 69 [(4, .int x4_24), (0, .ref (ad 8 0)), (1, .int a1), (2, .int a2), (3, .int a3)] [] (L_X8_tape_69b a1 K_24 n_24 x4_24 S_24) := by
          intro K_24 hK_24 n_24
          induction n_24 with
          | zero => intros; exact G_none
          | succ n_24 ih_24 =>
            intro x4_24 S_24
            rw [L_X8_tape_69b.eq_2]
            refine G_iload (q := 71) cx dX8_tape_69 rfl rfl ?_
            refine G_bipush (q := 73) (v := (60 : Int32)) cx dX8_tape_71 rfl (by decide) ?_
            refine G_icmp_ge (q := 76) (t := 95) cx dX8_tape_73 rfl (by decide) (fun c25 => ?_) (fun c25 => ?_)
            · exact G_loc [0, 1, 2, 3, 4] rfl (hK_24 x4_24 S_24)
            refine G_aload_n (q := 77) cx dX8_tape_76 rfl rfl ?_
            refine G_getr (q := 80) (g := 55) (i' := 0) cx dX8_tape_77 rfl cf_8 fl_RX8_220 (Nat.le_of_ble_eq_true rfl) rfl rfl (Nat.le_of_ble_eq_true rfl) ?_
            refine G_bipush (q := 82) (v := (60 : Int32)) cx dX8_tape_80 rfl (by decide) ?_
            refine G_iload_n (q := 83) cx dX8_tape_82 rfl rfl ?_
            refine G_imul (q := 84) cx dX8_tape_83 rfl ?_
            refine G_iload (q := 86) cx dX8_tape_84 rfl rfl ?_
            refine G_iadd (q := 87) cx dX8_tape_86 rfl ?_
            refine G_lconst (q := 88) (v := (0 : Int64)) cx dX8_tape_87 rfl (by decide) ?_
            refine G_last (q := 89) cx dX8_tape_88 rfl (by decide) rfl rfl (Nat.le_of_ble_eq_true rfl) (fun g26 g27 => ?_)
            refine G_iinc (q := 92) (j := 0) (v := x4_24 + 1) (ls' := [(4, .int (x4_24 + 1)), (0, .ref (ad 8 0)), (1, .int a1), (2, .int a2), (3, .int a3)]) cx dX8_tape_89 rfl rfl rfl (Nat.le_of_ble_eq_true rfl) rfl ?_
            refine G_goto (t := 69) cx dX8_tape_92 (by decide) ?_
            exact G_loc [0, 1, 2, 3, 4] rfl (ih_24 (x4_24 + 1) (sJ S_24 55 0 (((60 : Int32) * a1) + x4_24).toNatClampNeg (0 : Int64)))
        refine G_loc [0, 1, 2, 3, 4] rfl (lp_24 _ (fun y4_24 T_24 => ?_) 1000 (0 : Int32) (sI (sI S7 53 0 a1.toNatClampNeg a2) 54 0 a1.toNatClampNeg (0 : Int32)))
        refine G_iconst (q := 96) (v := (1 : Int32)) cx dX8_tape_95 rfl (by decide) ?_
        exact G_iret cx rfl dX8_tape_96 trivial
      refine G_iload_n (q := 38) cx dX8_tape_37 rfl rfl ?_
      refine G_if_ge (q := 41) (t := 44) cx dX8_tape_38 rfl (by decide) (fun c28 => ?_) (fun c28 => ?_)
      · refine G_aload_n (q := 45) cx dX8_tape_44 rfl rfl ?_
        refine G_getr (q := 48) (g := 53) (i' := 0) cx dX8_tape_45 rfl cf_8 fl_RX8_214 (Nat.le_of_ble_eq_true rfl) rfl rfl (Nat.le_of_ble_eq_true rfl) ?_
        refine G_iload_n (q := 49) cx dX8_tape_48 rfl rfl ?_
        refine G_iload_n (q := 50) cx dX8_tape_49 rfl rfl ?_
        refine G_iast (q := 51) cx dX8_tape_50 rfl (by decide) rfl rfl (Nat.le_of_ble_eq_true rfl) (fun g29 g30 => ?_)
        refine G_aload_n (q := 52) cx dX8_tape_51 rfl rfl ?_
        refine G_getr (q := 55) (g := 54) (i' := 0) cx dX8_tape_52 rfl cf_8 fl_RX8_217 (Nat.le_of_ble_eq_true rfl) rfl rfl (Nat.le_of_ble_eq_true rfl) ?_
        refine G_iload_n (q := 56) cx dX8_tape_55 rfl rfl ?_
        refine G_iload_n (q := 57) cx dX8_tape_56 rfl rfl ?_
        refine G_if_ge (q := 60) (t := 64) cx dX8_tape_57 rfl (by decide) (fun c31 => ?_) (fun c31 => ?_)
        · refine G_iload_n (q := 65) cx dX8_tape_64 rfl rfl ?_
          refine G_iast (q := 66) cx dX8_tape_65 rfl (by decide) rfl rfl (Nat.le_of_ble_eq_true rfl) (fun g32 g33 => ?_)
          refine G_iconst (q := 67) (v := (0 : Int32)) cx dX8_tape_66 rfl (by decide) ?_
          refine G_istore (q := 69) (ls' := [(4, .int (0 : Int32)), (0, .ref (ad 8 0)), (1, .int a1), (2, .int a2), (3, .int a3)]) cx dX8_tape_67 rfl (Nat.le_of_ble_eq_true rfl) rfl ?_
          have lp_34 : ∀ (K_34 : Int32 → St → Option (Int32 × St)) (hK_34 : ∀ (y4_34 : Int32) (T_34 : St), TG p l e 2 s m ([.ref (ad 8 0), .int a1, .int a2, .int a3] : List Value).toArray below meth c D cy ad nM toI okT T_34 95 [(4, .int y4_34), (0, .ref (ad 8 0)), (1, .int a1), (2, .int a2), (3, .int a3)] [] (K_34 y4_34 T_34)), ∀ (n_34 : Nat) (x4_34 : Int32) (S_34 : St), TG p l e 2 s m ([.ref (ad 8 0), .int a1, .int a2, .int a3] : List Value).toArray below meth c D cy ad nM toI okT S_34 69 [(4, .int x4_34), (0, .ref (ad 8 0)), (1, .int a1), (2, .int a2), (3, .int a3)] [] (L_X8_tape_69bb a1 K_34 n_34 x4_34 S_34) := by
            intro K_34 hK_34 n_34
            induction n_34 with
            | zero => intros; exact G_none
            | succ n_34 ih_34 =>
              intro x4_34 S_34
              rw [L_X8_tape_69bb.eq_2]
              refine G_iload (q := 71) cx dX8_tape_69 rfl rfl ?_
              refine G_bipush (q := 73) (v := (60 : Int32)) cx dX8_tape_71 rfl (by decide) ?_
              refine G_icmp_ge (q := 76) (t := 95) cx dX8_tape_73 rfl (by decide) (fun c35 => ?_) (fun c35 => ?_)
              · exact G_loc [0, 1, 2, 3, 4] rfl (hK_34 x4_34 S_34)
              refine G_aload_n (q := 77) cx dX8_tape_76 rfl rfl ?_
              refine G_getr (q := 80) (g := 55) (i' := 0) cx dX8_tape_77 rfl cf_8 fl_RX8_220 (Nat.le_of_ble_eq_true rfl) rfl rfl (Nat.le_of_ble_eq_true rfl) ?_
              refine G_bipush (q := 82) (v := (60 : Int32)) cx dX8_tape_80 rfl (by decide) ?_
              refine G_iload_n (q := 83) cx dX8_tape_82 rfl rfl ?_
              refine G_imul (q := 84) cx dX8_tape_83 rfl ?_
              refine G_iload (q := 86) cx dX8_tape_84 rfl rfl ?_
              refine G_iadd (q := 87) cx dX8_tape_86 rfl ?_
              refine G_lconst (q := 88) (v := (0 : Int64)) cx dX8_tape_87 rfl (by decide) ?_
              refine G_last (q := 89) cx dX8_tape_88 rfl (by decide) rfl rfl (Nat.le_of_ble_eq_true rfl) (fun g36 g37 => ?_)
              refine G_iinc (q := 92) (j := 0) (v := x4_34 + 1) (ls' := [(4, .int (x4_34 + 1)), (0, .ref (ad 8 0)), (1, .int a1), (2, .int a2), (3, .int a3)]) cx dX8_tape_89 rfl rfl rfl (Nat.le_of_ble_eq_true rfl) rfl ?_
              refine G_goto (t := 69) cx dX8_tape_92 (by decide) ?_
              exact G_loc [0, 1, 2, 3, 4] rfl (ih_34 (x4_34 + 1) (sJ S_34 55 0 (((60 : Int32) * a1) + x4_34).toNatClampNeg (0 : Int64)))
          refine G_loc [0, 1, 2, 3, 4] rfl (lp_34 _ (fun y4_34 T_34 => ?_) 1000 (0 : Int32) (sI (sI S7 53 0 a1.toNatClampNeg a2) 54 0 a1.toNatClampNeg a3))
          refine G_iconst (q := 96) (v := (1 : Int32)) cx dX8_tape_95 rfl (by decide) ?_
          exact G_iret cx rfl dX8_tape_96 trivial
        refine G_iconst (q := 61) (v := (0 : Int32)) cx dX8_tape_60 rfl (by decide) ?_
        refine G_goto (t := 65) cx dX8_tape_61 (by decide) ?_
        refine G_iast (q := 66) cx dX8_tape_65 rfl (by decide) rfl rfl (Nat.le_of_ble_eq_true rfl) (fun g38 g39 => ?_)
        refine G_iconst (q := 67) (v := (0 : Int32)) cx dX8_tape_66 rfl (by decide) ?_
        refine G_istore (q := 69) (ls' := [(4, .int (0 : Int32)), (0, .ref (ad 8 0)), (1, .int a1), (2, .int a2), (3, .int a3)]) cx dX8_tape_67 rfl (Nat.le_of_ble_eq_true rfl) rfl ?_
        have lp_40 : ∀ (K_40 : Int32 → St → Option (Int32 × St)) (hK_40 : ∀ (y4_40 : Int32) (T_40 : St), TG p l e 2 s m ([.ref (ad 8 0), .int a1, .int a2, .int a3] : List Value).toArray below meth c D cy ad nM toI okT T_40 95 [(4, .int y4_40), (0, .ref (ad 8 0)), (1, .int a1), (2, .int a2), (3, .int a3)] [] (K_40 y4_40 T_40)), ∀ (n_40 : Nat) (x4_40 : Int32) (S_40 : St), TG p l e 2 s m ([.ref (ad 8 0), .int a1, .int a2, .int a3] : List Value).toArray below meth c D cy ad nM toI okT S_40 69 [(4, .int x4_40), (0, .ref (ad 8 0)), (1, .int a1), (2, .int a2), (3, .int a3)] [] (L_X8_tape_69bbb a1 K_40 n_40 x4_40 S_40) := by
          intro K_40 hK_40 n_40
          induction n_40 with
          | zero => intros; exact G_none
          | succ n_40 ih_40 =>
            intro x4_40 S_40
            rw [L_X8_tape_69bbb.eq_2]
            refine G_iload (q := 71) cx dX8_tape_69 rfl rfl ?_
            refine G_bipush (q := 73) (v := (60 : Int32)) cx dX8_tape_71 rfl (by decide) ?_
            refine G_icmp_ge (q := 76) (t := 95) cx dX8_tape_73 rfl (by decide) (fun c41 => ?_) (fun c41 => ?_)
            · exact G_loc [0, 1, 2, 3, 4] rfl (hK_40 x4_40 S_40)
            refine G_aload_n (q := 77) cx dX8_tape_76 rfl rfl ?_
            refine G_getr (q := 80) (g := 55) (i' := 0) cx dX8_tape_77 rfl cf_8 fl_RX8_220 (Nat.le_of_ble_eq_true rfl) rfl rfl (Nat.le_of_ble_eq_true rfl) ?_
            refine G_bipush (q := 82) (v := (60 : Int32)) cx dX8_tape_80 rfl (by decide) ?_
            refine G_iload_n (q := 83) cx dX8_tape_82 rfl rfl ?_
            refine G_imul (q := 84) cx dX8_tape_83 rfl ?_
            refine G_iload (q := 86) cx dX8_tape_84 rfl rfl ?_
            refine G_iadd (q := 87) cx dX8_tape_86 rfl ?_
            refine G_lconst (q := 88) (v := (0 : Int64)) cx dX8_tape_87 rfl (by decide) ?_
            refine G_last (q := 89) cx dX8_tape_88 rfl (by decide) rfl rfl (Nat.le_of_ble_eq_true rfl) (fun g42 g43 => ?_)
            refine G_iinc (q := 92) (j := 0) (v := x4_40 + 1) (ls' := [(4, .int (x4_40 + 1)), (0, .ref (ad 8 0)), (1, .int a1), (2, .int a2), (3, .int a3)]) cx dX8_tape_89 rfl rfl rfl (Nat.le_of_ble_eq_true rfl) rfl ?_
            refine G_goto (t := 69) cx dX8_tape_92 (by decide) ?_
            exact G_loc [0, 1, 2, 3, 4] rfl (ih_40 (x4_40 + 1) (sJ S_40 55 0 (((60 : Int32) * a1) + x4_40).toNatClampNeg (0 : Int64)))
        refine G_loc [0, 1, 2, 3, 4] rfl (lp_40 _ (fun y4_40 T_40 => ?_) 1000 (0 : Int32) (sI (sI S7 53 0 a1.toNatClampNeg a2) 54 0 a1.toNatClampNeg (0 : Int32)))
        refine G_iconst (q := 96) (v := (1 : Int32)) cx dX8_tape_95 rfl (by decide) ?_
        exact G_iret cx rfl dX8_tape_96 trivial
      · refine G_bipush (q := 43) (v := (-14 : Int32)) cx dX8_tape_41 rfl (by decide) ?_
        exact G_iret cx rfl dX8_tape_43 trivial
    refine G_iload_n (q := 25) cx dX8_tape_24 rfl rfl ?_
    refine G_bipush (q := 27) (v := (60 : Int32)) cx dX8_tape_25 rfl (by decide) ?_
    refine G_icmp_le (q := 30) (t := 33) cx dX8_tape_27 rfl (by decide) (fun c44 => ?_) (fun c44 => ?_)
    · refine G_iload_n (q := 34) cx dX8_tape_33 rfl rfl ?_
      refine G_if_lt (q := 37) (t := 44) cx dX8_tape_34 rfl (by decide) (fun c45 => ?_) (fun c45 => ?_)
      · refine G_aload_n (q := 45) cx dX8_tape_44 rfl rfl ?_
        refine G_getr (q := 48) (g := 53) (i' := 0) cx dX8_tape_45 rfl cf_8 fl_RX8_214 (Nat.le_of_ble_eq_true rfl) rfl rfl (Nat.le_of_ble_eq_true rfl) ?_
        refine G_iload_n (q := 49) cx dX8_tape_48 rfl rfl ?_
        refine G_iload_n (q := 50) cx dX8_tape_49 rfl rfl ?_
        refine G_iast (q := 51) cx dX8_tape_50 rfl (by decide) rfl rfl (Nat.le_of_ble_eq_true rfl) (fun g46 g47 => ?_)
        refine G_aload_n (q := 52) cx dX8_tape_51 rfl rfl ?_
        refine G_getr (q := 55) (g := 54) (i' := 0) cx dX8_tape_52 rfl cf_8 fl_RX8_217 (Nat.le_of_ble_eq_true rfl) rfl rfl (Nat.le_of_ble_eq_true rfl) ?_
        refine G_iload_n (q := 56) cx dX8_tape_55 rfl rfl ?_
        refine G_iload_n (q := 57) cx dX8_tape_56 rfl rfl ?_
        refine G_if_ge (q := 60) (t := 64) cx dX8_tape_57 rfl (by decide) (fun c48 => ?_) (fun c48 => ?_)
        · refine G_iload_n (q := 65) cx dX8_tape_64 rfl rfl ?_
          refine G_iast (q := 66) cx dX8_tape_65 rfl (by decide) rfl rfl (Nat.le_of_ble_eq_true rfl) (fun g49 g50 => ?_)
          refine G_iconst (q := 67) (v := (0 : Int32)) cx dX8_tape_66 rfl (by decide) ?_
          refine G_istore (q := 69) (ls' := [(4, .int (0 : Int32)), (0, .ref (ad 8 0)), (1, .int a1), (2, .int a2), (3, .int a3)]) cx dX8_tape_67 rfl (Nat.le_of_ble_eq_true rfl) rfl ?_
          have lp_51 : ∀ (K_51 : Int32 → St → Option (Int32 × St)) (hK_51 : ∀ (y4_51 : Int32) (T_51 : St), TG p l e 2 s m ([.ref (ad 8 0), .int a1, .int a2, .int a3] : List Value).toArray below meth c D cy ad nM toI okT T_51 95 [(4, .int y4_51), (0, .ref (ad 8 0)), (1, .int a1), (2, .int a2), (3, .int a3)] [] (K_51 y4_51 T_51)), ∀ (n_51 : Nat) (x4_51 : Int32) (S_51 : St), TG p l e 2 s m ([.ref (ad 8 0), .int a1, .int a2, .int a3] : List Value).toArray below meth c D cy ad nM toI okT S_51 69 [(4, .int x4_51), (0, .ref (ad 8 0)), (1, .int a1), (2, .int a2), (3, .int a3)] [] (L_X8_tape_69bbbb a1 K_51 n_51 x4_51 S_51) := by
            intro K_51 hK_51 n_51
            induction n_51 with
            | zero => intros; exact G_none
            | succ n_51 ih_51 =>
              intro x4_51 S_51
              rw [L_X8_tape_69bbbb.eq_2]
              refine G_iload (q := 71) cx dX8_tape_69 rfl rfl ?_
              refine G_bipush (q := 73) (v := (60 : Int32)) cx dX8_tape_71 rfl (by decide) ?_
              refine G_icmp_ge (q := 76) (t := 95) cx dX8_tape_73 rfl (by decide) (fun c52 => ?_) (fun c52 => ?_)
              · exact G_loc [0, 1, 2, 3, 4] rfl (hK_51 x4_51 S_51)
              refine G_aload_n (q := 77) cx dX8_tape_76 rfl rfl ?_
              refine G_getr (q := 80) (g := 55) (i' := 0) cx dX8_tape_77 rfl cf_8 fl_RX8_220 (Nat.le_of_ble_eq_true rfl) rfl rfl (Nat.le_of_ble_eq_true rfl) ?_
              refine G_bipush (q := 82) (v := (60 : Int32)) cx dX8_tape_80 rfl (by decide) ?_
              refine G_iload_n (q := 83) cx dX8_tape_82 rfl rfl ?_
              refine G_imul (q := 84) cx dX8_tape_83 rfl ?_
              refine G_iload (q := 86) cx dX8_tape_84 rfl rfl ?_
              refine G_iadd (q := 87) cx dX8_tape_86 rfl ?_
              refine G_lconst (q := 88) (v := (0 : Int64)) cx dX8_tape_87 rfl (by decide) ?_
              refine G_last (q := 89) cx dX8_tape_88 rfl (by decide) rfl rfl (Nat.le_of_ble_eq_true rfl) (fun g53 g54 => ?_)
              refine G_iinc (q := 92) (j := 0) (v := x4_51 + 1) (ls' := [(4, .int (x4_51 + 1)), (0, .ref (ad 8 0)), (1, .int a1), (2, .int a2), (3, .int a3)]) cx dX8_tape_89 rfl rfl rfl (Nat.le_of_ble_eq_true rfl) rfl ?_
              refine G_goto (t := 69) cx dX8_tape_92 (by decide) ?_
              exact G_loc [0, 1, 2, 3, 4] rfl (ih_51 (x4_51 + 1) (sJ S_51 55 0 (((60 : Int32) * a1) + x4_51).toNatClampNeg (0 : Int64)))
          refine G_loc [0, 1, 2, 3, 4] rfl (lp_51 _ (fun y4_51 T_51 => ?_) 1000 (0 : Int32) (sI (sI S7 53 0 a1.toNatClampNeg a2) 54 0 a1.toNatClampNeg a3))
          refine G_iconst (q := 96) (v := (1 : Int32)) cx dX8_tape_95 rfl (by decide) ?_
          exact G_iret cx rfl dX8_tape_96 trivial
        refine G_iconst (q := 61) (v := (0 : Int32)) cx dX8_tape_60 rfl (by decide) ?_
        refine G_goto (t := 65) cx dX8_tape_61 (by decide) ?_
        refine G_iast (q := 66) cx dX8_tape_65 rfl (by decide) rfl rfl (Nat.le_of_ble_eq_true rfl) (fun g55 g56 => ?_)
        refine G_iconst (q := 67) (v := (0 : Int32)) cx dX8_tape_66 rfl (by decide) ?_
        refine G_istore (q := 69) (ls' := [(4, .int (0 : Int32)), (0, .ref (ad 8 0)), (1, .int a1), (2, .int a2), (3, .int a3)]) cx dX8_tape_67 rfl (Nat.le_of_ble_eq_true rfl) rfl ?_
        have lp_57 : ∀ (K_57 : Int32 → St → Option (Int32 × St)) (hK_57 : ∀ (y4_57 : Int32) (T_57 : St), TG p l e 2 s m ([.ref (ad 8 0), .int a1, .int a2, .int a3] : List Value).toArray below meth c D cy ad nM toI okT T_57 95 [(4, .int y4_57), (0, .ref (ad 8 0)), (1, .int a1), (2, .int a2), (3, .int a3)] [] (K_57 y4_57 T_57)), ∀ (n_57 : Nat) (x4_57 : Int32) (S_57 : St), TG p l e 2 s m ([.ref (ad 8 0), .int a1, .int a2, .int a3] : List Value).toArray below meth c D cy ad nM toI okT S_57 69 [(4, .int x4_57), (0, .ref (ad 8 0)), (1, .int a1), (2, .int a2), (3, .int a3)] [] (L_X8_tape_69bbbbb a1 K_57 n_57 x4_57 S_57) := by
          intro K_57 hK_57 n_57
          induction n_57 with
          | zero => intros; exact G_none
          | succ n_57 ih_57 =>
            intro x4_57 S_57
            rw [L_X8_tape_69bbbbb.eq_2]
            refine G_iload (q := 71) cx dX8_tape_69 rfl rfl ?_
            refine G_bipush (q := 73) (v := (60 : Int32)) cx dX8_tape_71 rfl (by decide) ?_
            refine G_icmp_ge (q := 76) (t := 95) cx dX8_tape_73 rfl (by decide) (fun c58 => ?_) (fun c58 => ?_)
            · exact G_loc [0, 1, 2, 3, 4] rfl (hK_57 x4_57 S_57)
            refine G_aload_n (q := 77) cx dX8_tape_76 rfl rfl ?_
            refine G_getr (q := 80) (g := 55) (i' := 0) cx dX8_tape_77 rfl cf_8 fl_RX8_220 (Nat.le_of_ble_eq_true rfl) rfl rfl (Nat.le_of_ble_eq_true rfl) ?_
            refine G_bipush (q := 82) (v := (60 : Int32)) cx dX8_tape_80 rfl (by decide) ?_
            refine G_iload_n (q := 83) cx dX8_tape_82 rfl rfl ?_
            refine G_imul (q := 84) cx dX8_tape_83 rfl ?_
            refine G_iload (q := 86) cx dX8_tape_84 rfl rfl ?_
            refine G_iadd (q := 87) cx dX8_tape_86 rfl ?_
            refine G_lconst (q := 88) (v := (0 : Int64)) cx dX8_tape_87 rfl (by decide) ?_
            refine G_last (q := 89) cx dX8_tape_88 rfl (by decide) rfl rfl (Nat.le_of_ble_eq_true rfl) (fun g59 g60 => ?_)
            refine G_iinc (q := 92) (j := 0) (v := x4_57 + 1) (ls' := [(4, .int (x4_57 + 1)), (0, .ref (ad 8 0)), (1, .int a1), (2, .int a2), (3, .int a3)]) cx dX8_tape_89 rfl rfl rfl (Nat.le_of_ble_eq_true rfl) rfl ?_
            refine G_goto (t := 69) cx dX8_tape_92 (by decide) ?_
            exact G_loc [0, 1, 2, 3, 4] rfl (ih_57 (x4_57 + 1) (sJ S_57 55 0 (((60 : Int32) * a1) + x4_57).toNatClampNeg (0 : Int64)))
        refine G_loc [0, 1, 2, 3, 4] rfl (lp_57 _ (fun y4_57 T_57 => ?_) 1000 (0 : Int32) (sI (sI S7 53 0 a1.toNatClampNeg a2) 54 0 a1.toNatClampNeg (0 : Int32)))
        refine G_iconst (q := 96) (v := (1 : Int32)) cx dX8_tape_95 rfl (by decide) ?_
        exact G_iret cx rfl dX8_tape_96 trivial
      refine G_iload_n (q := 38) cx dX8_tape_37 rfl rfl ?_
      refine G_if_ge (q := 41) (t := 44) cx dX8_tape_38 rfl (by decide) (fun c61 => ?_) (fun c61 => ?_)
      · refine G_aload_n (q := 45) cx dX8_tape_44 rfl rfl ?_
        refine G_getr (q := 48) (g := 53) (i' := 0) cx dX8_tape_45 rfl cf_8 fl_RX8_214 (Nat.le_of_ble_eq_true rfl) rfl rfl (Nat.le_of_ble_eq_true rfl) ?_
        refine G_iload_n (q := 49) cx dX8_tape_48 rfl rfl ?_
        refine G_iload_n (q := 50) cx dX8_tape_49 rfl rfl ?_
        refine G_iast (q := 51) cx dX8_tape_50 rfl (by decide) rfl rfl (Nat.le_of_ble_eq_true rfl) (fun g62 g63 => ?_)
        refine G_aload_n (q := 52) cx dX8_tape_51 rfl rfl ?_
        refine G_getr (q := 55) (g := 54) (i' := 0) cx dX8_tape_52 rfl cf_8 fl_RX8_217 (Nat.le_of_ble_eq_true rfl) rfl rfl (Nat.le_of_ble_eq_true rfl) ?_
        refine G_iload_n (q := 56) cx dX8_tape_55 rfl rfl ?_
        refine G_iload_n (q := 57) cx dX8_tape_56 rfl rfl ?_
        refine G_if_ge (q := 60) (t := 64) cx dX8_tape_57 rfl (by decide) (fun c64 => ?_) (fun c64 => ?_)
        · refine G_iload_n (q := 65) cx dX8_tape_64 rfl rfl ?_
          refine G_iast (q := 66) cx dX8_tape_65 rfl (by decide) rfl rfl (Nat.le_of_ble_eq_true rfl) (fun g65 g66 => ?_)
          refine G_iconst (q := 67) (v := (0 : Int32)) cx dX8_tape_66 rfl (by decide) ?_
          refine G_istore (q := 69) (ls' := [(4, .int (0 : Int32)), (0, .ref (ad 8 0)), (1, .int a1), (2, .int a2), (3, .int a3)]) cx dX8_tape_67 rfl (Nat.le_of_ble_eq_true rfl) rfl ?_
          have lp_67 : ∀ (K_67 : Int32 → St → Option (Int32 × St)) (hK_67 : ∀ (y4_67 : Int32) (T_67 : St), TG p l e 2 s m ([.ref (ad 8 0), .int a1, .int a2, .int a3] : List Value).toArray below meth c D cy ad nM toI okT T_67 95 [(4, .int y4_67), (0, .ref (ad 8 0)), (1, .int a1), (2, .int a2), (3, .int a3)] [] (K_67 y4_67 T_67)), ∀ (n_67 : Nat) (x4_67 : Int32) (S_67 : St), TG p l e 2 s m ([.ref (ad 8 0), .int a1, .int a2, .int a3] : List Value).toArray below meth c D cy ad nM toI okT S_67 69 [(4, .int x4_67), (0, .ref (ad 8 0)), (1, .int a1), (2, .int a2), (3, .int a3)] [] (L_X8_tape_69bbbbbb a1 K_67 n_67 x4_67 S_67) := by
            intro K_67 hK_67 n_67
            induction n_67 with
            | zero => intros; exact G_none
            | succ n_67 ih_67 =>
              intro x4_67 S_67
              rw [L_X8_tape_69bbbbbb.eq_2]
              refine G_iload (q := 71) cx dX8_tape_69 rfl rfl ?_
              refine G_bipush (q := 73) (v := (60 : Int32)) cx dX8_tape_71 rfl (by decide) ?_
              refine G_icmp_ge (q := 76) (t := 95) cx dX8_tape_73 rfl (by decide) (fun c68 => ?_) (fun c68 => ?_)
              · exact G_loc [0, 1, 2, 3, 4] rfl (hK_67 x4_67 S_67)
              refine G_aload_n (q := 77) cx dX8_tape_76 rfl rfl ?_
              refine G_getr (q := 80) (g := 55) (i' := 0) cx dX8_tape_77 rfl cf_8 fl_RX8_220 (Nat.le_of_ble_eq_true rfl) rfl rfl (Nat.le_of_ble_eq_true rfl) ?_
              refine G_bipush (q := 82) (v := (60 : Int32)) cx dX8_tape_80 rfl (by decide) ?_
              refine G_iload_n (q := 83) cx dX8_tape_82 rfl rfl ?_
              refine G_imul (q := 84) cx dX8_tape_83 rfl ?_
              refine G_iload (q := 86) cx dX8_tape_84 rfl rfl ?_
              refine G_iadd (q := 87) cx dX8_tape_86 rfl ?_
              refine G_lconst (q := 88) (v := (0 : Int64)) cx dX8_tape_87 rfl (by decide) ?_
              refine G_last (q := 89) cx dX8_tape_88 rfl (by decide) rfl rfl (Nat.le_of_ble_eq_true rfl) (fun g69 g70 => ?_)
              refine G_iinc (q := 92) (j := 0) (v := x4_67 + 1) (ls' := [(4, .int (x4_67 + 1)), (0, .ref (ad 8 0)), (1, .int a1), (2, .int a2), (3, .int a3)]) cx dX8_tape_89 rfl rfl rfl (Nat.le_of_ble_eq_true rfl) rfl ?_
              refine G_goto (t := 69) cx dX8_tape_92 (by decide) ?_
              exact G_loc [0, 1, 2, 3, 4] rfl (ih_67 (x4_67 + 1) (sJ S_67 55 0 (((60 : Int32) * a1) + x4_67).toNatClampNeg (0 : Int64)))
          refine G_loc [0, 1, 2, 3, 4] rfl (lp_67 _ (fun y4_67 T_67 => ?_) 1000 (0 : Int32) (sI (sI S7 53 0 a1.toNatClampNeg a2) 54 0 a1.toNatClampNeg a3))
          refine G_iconst (q := 96) (v := (1 : Int32)) cx dX8_tape_95 rfl (by decide) ?_
          exact G_iret cx rfl dX8_tape_96 trivial
        refine G_iconst (q := 61) (v := (0 : Int32)) cx dX8_tape_60 rfl (by decide) ?_
        refine G_goto (t := 65) cx dX8_tape_61 (by decide) ?_
        refine G_iast (q := 66) cx dX8_tape_65 rfl (by decide) rfl rfl (Nat.le_of_ble_eq_true rfl) (fun g71 g72 => ?_)
        refine G_iconst (q := 67) (v := (0 : Int32)) cx dX8_tape_66 rfl (by decide) ?_
        refine G_istore (q := 69) (ls' := [(4, .int (0 : Int32)), (0, .ref (ad 8 0)), (1, .int a1), (2, .int a2), (3, .int a3)]) cx dX8_tape_67 rfl (Nat.le_of_ble_eq_true rfl) rfl ?_
        have lp_73 : ∀ (K_73 : Int32 → St → Option (Int32 × St)) (hK_73 : ∀ (y4_73 : Int32) (T_73 : St), TG p l e 2 s m ([.ref (ad 8 0), .int a1, .int a2, .int a3] : List Value).toArray below meth c D cy ad nM toI okT T_73 95 [(4, .int y4_73), (0, .ref (ad 8 0)), (1, .int a1), (2, .int a2), (3, .int a3)] [] (K_73 y4_73 T_73)), ∀ (n_73 : Nat) (x4_73 : Int32) (S_73 : St), TG p l e 2 s m ([.ref (ad 8 0), .int a1, .int a2, .int a3] : List Value).toArray below meth c D cy ad nM toI okT S_73 69 [(4, .int x4_73), (0, .ref (ad 8 0)), (1, .int a1), (2, .int a2), (3, .int a3)] [] (L_X8_tape_69bbbbbbb a1 K_73 n_73 x4_73 S_73) := by
          intro K_73 hK_73 n_73
          induction n_73 with
          | zero => intros; exact G_none
          | succ n_73 ih_73 =>
            intro x4_73 S_73
            rw [L_X8_tape_69bbbbbbb.eq_2]
            refine G_iload (q := 71) cx dX8_tape_69 rfl rfl ?_
            refine G_bipush (q := 73) (v := (60 : Int32)) cx dX8_tape_71 rfl (by decide) ?_
            refine G_icmp_ge (q := 76) (t := 95) cx dX8_tape_73 rfl (by decide) (fun c74 => ?_) (fun c74 => ?_)
            · exact G_loc [0, 1, 2, 3, 4] rfl (hK_73 x4_73 S_73)
            refine G_aload_n (q := 77) cx dX8_tape_76 rfl rfl ?_
            refine G_getr (q := 80) (g := 55) (i' := 0) cx dX8_tape_77 rfl cf_8 fl_RX8_220 (Nat.le_of_ble_eq_true rfl) rfl rfl (Nat.le_of_ble_eq_true rfl) ?_
            refine G_bipush (q := 82) (v := (60 : Int32)) cx dX8_tape_80 rfl (by decide) ?_
            refine G_iload_n (q := 83) cx dX8_tape_82 rfl rfl ?_
            refine G_imul (q := 84) cx dX8_tape_83 rfl ?_
            refine G_iload (q := 86) cx dX8_tape_84 rfl rfl ?_
            refine G_iadd (q := 87) cx dX8_tape_86 rfl ?_
            refine G_lconst (q := 88) (v := (0 : Int64)) cx dX8_tape_87 rfl (by decide) ?_
            refine G_last (q := 89) cx dX8_tape_88 rfl (by decide) rfl rfl (Nat.le_of_ble_eq_true rfl) (fun g75 g76 => ?_)
            refine G_iinc (q := 92) (j := 0) (v := x4_73 + 1) (ls' := [(4, .int (x4_73 + 1)), (0, .ref (ad 8 0)), (1, .int a1), (2, .int a2), (3, .int a3)]) cx dX8_tape_89 rfl rfl rfl (Nat.le_of_ble_eq_true rfl) rfl ?_
            refine G_goto (t := 69) cx dX8_tape_92 (by decide) ?_
            exact G_loc [0, 1, 2, 3, 4] rfl (ih_73 (x4_73 + 1) (sJ S_73 55 0 (((60 : Int32) * a1) + x4_73).toNatClampNeg (0 : Int64)))
        refine G_loc [0, 1, 2, 3, 4] rfl (lp_73 _ (fun y4_73 T_73 => ?_) 1000 (0 : Int32) (sI (sI S7 53 0 a1.toNatClampNeg a2) 54 0 a1.toNatClampNeg (0 : Int32)))
        refine G_iconst (q := 96) (v := (1 : Int32)) cx dX8_tape_95 rfl (by decide) ?_
        exact G_iret cx rfl dX8_tape_96 trivial
      · refine G_bipush (q := 43) (v := (-14 : Int32)) cx dX8_tape_41 rfl (by decide) ?_
        exact G_iret cx rfl dX8_tape_43 trivial
    · refine G_bipush (q := 32) (v := (-2 : Int32)) cx dX8_tape_30 rfl (by decide) ?_
      exact G_iret cx rfl dX8_tape_32 trivial
  · refine G_iconst (q := 9) (v := (-1 : Int32)) cx dX8_tape_8 rfl (by decide) ?_
    exact G_iret cx rfl dX8_tape_9 trivial
def F_X8_narrow (S : St) (a1 : Int32) (a2 : Int64) : Option (Int64 × St) :=
  if a1 = 0 then (some (a2.toInt32.toInt8.toInt32.toInt64, S))
  else (if a1 = (1 : Int32) then (some (a2.toInt32.toInt16.toInt32.toInt64, S))
  else (if a1 = (2 : Int32) then (some (a2.toInt32.toInt64, S))
  else (if a1 = (4 : Int32) then (if (lg_cmp a2 (0 : Int64)) = 0 then (some ((0 : Int64), S))
  else (some ((1 : Int64), S)))
  else (some (a2, S)))))
set_option maxRecDepth 10000 in
theorem c_X8_narrow (l : Launch) {D : va_G} {cy : Nat → ClassId} {ad : Nat → Nat → Nat} (hJ : wJ ad nM) (S : St) (a1 : Int32) (a2 : Int64) : CT l yX8_narrow cX8_narrow 4 (some .long) 0 D cy ad nM toJ okT [.ref (ad 8 0), .int a1, .long a2] S (F_X8_narrow S a1 a2) := by
  refine CT.of RX8 (by decide) rfl hJ (Nat.le_of_ble_eq_true rfl) rfl ?_
  intro p e s m below meth c cx
  unfold F_X8_narrow
  refine G_iload_n (q := 1) cx dX8_narrow_0 rfl rfl ?_
  refine G_if_ne (q := 4) (t := 11) cx dX8_narrow_1 rfl (by decide) (fun c1 => ?_) (fun c1 => ?_)
  · refine G_iload_n (q := 12) cx dX8_narrow_11 rfl rfl ?_
    refine G_iconst (q := 13) (v := (1 : Int32)) cx dX8_narrow_12 rfl (by decide) ?_
    refine G_icmp_ne (q := 16) (t := 23) cx dX8_narrow_13 rfl (by decide) (fun c2 => ?_) (fun c2 => ?_)
    · refine G_iload_n (q := 24) cx dX8_narrow_23 rfl rfl ?_
      refine G_iconst (q := 25) (v := (2 : Int32)) cx dX8_narrow_24 rfl (by decide) ?_
      refine G_icmp_ne (q := 28) (t := 34) cx dX8_narrow_25 rfl (by decide) (fun c3 => ?_) (fun c3 => ?_)
      · refine G_iload_n (q := 35) cx dX8_narrow_34 rfl rfl ?_
        refine G_iconst (q := 36) (v := (4 : Int32)) cx dX8_narrow_35 rfl (by decide) ?_
        refine G_icmp_ne (q := 39) (t := 53) cx dX8_narrow_36 rfl (by decide) (fun c4 => ?_) (fun c4 => ?_)
        · refine G_lload_n (q := 54) cx dX8_narrow_53 rfl rfl ?_
          exact G_lret cx rfl dX8_narrow_54 trivial
        refine G_lload_n (q := 40) cx dX8_narrow_39 rfl rfl ?_
        refine G_lconst (q := 41) (v := (0 : Int64)) cx dX8_narrow_40 rfl (by decide) ?_
        refine G_lcmp (q := 42) cx dX8_narrow_41 rfl ?_
        refine G_if_eq (q := 45) (t := 49) cx dX8_narrow_42 rfl (by decide) (fun c5 => ?_) (fun c5 => ?_)
        · refine G_lconst (q := 50) (v := (0 : Int64)) cx dX8_narrow_49 rfl (by decide) ?_
          refine G_goto (t := 54) cx dX8_narrow_50 (by decide) ?_
          exact G_lret cx rfl dX8_narrow_54 trivial
        · refine G_lconst (q := 46) (v := (1 : Int64)) cx dX8_narrow_45 rfl (by decide) ?_
          refine G_goto (t := 54) cx dX8_narrow_46 (by decide) ?_
          exact G_lret cx rfl dX8_narrow_54 trivial
      refine G_lload_n (q := 29) cx dX8_narrow_28 rfl rfl ?_
      refine G_l2i (q := 30) cx dX8_narrow_29 rfl ?_
      refine G_i2l (q := 31) cx dX8_narrow_30 rfl ?_
      refine G_goto (t := 54) cx dX8_narrow_31 (by decide) ?_
      exact G_lret cx rfl dX8_narrow_54 trivial
    refine G_lload_n (q := 17) cx dX8_narrow_16 rfl rfl ?_
    refine G_l2i (q := 18) cx dX8_narrow_17 rfl ?_
    refine G_i2s (q := 19) cx dX8_narrow_18 rfl ?_
    refine G_i2l (q := 20) cx dX8_narrow_19 rfl ?_
    refine G_goto (t := 54) cx dX8_narrow_20 (by decide) ?_
    exact G_lret cx rfl dX8_narrow_54 trivial
  refine G_lload_n (q := 5) cx dX8_narrow_4 rfl rfl ?_
  refine G_l2i (q := 6) cx dX8_narrow_5 rfl ?_
  refine G_i2b (q := 7) cx dX8_narrow_6 rfl ?_
  refine G_i2l (q := 8) cx dX8_narrow_7 rfl ?_
  refine G_goto (t := 54) cx dX8_narrow_8 (by decide) ?_
  exact G_lret cx rfl dX8_narrow_54 trivial
def F_X8_item (S : St) (a1 : Int32) (a2 : Int32) (a3 : Int64) : Option (Int32 × St) :=
  bnd (F_X8_isTape S a1) (fun r1 S2 =>
  if r1 = 0 then (some ((-1 : Int32), S2))
  else (if 0 ≤ a1 ∧ a1.toNatClampNeg < 6 then (if 0 ≤ (gI S2 53 0 a1.toNatClampNeg) then (if 0 ≤ a1 ∧ a1.toNatClampNeg < 6 then (bnd (F_X8_in S2 a2 (0 : Int32) ((gI S2 54 0 a1.toNatClampNeg) - (1 : Int32))) (fun r11 S12 =>
  if r11 = 0 then (some ((-13 : Int32), S12))
  else (if 0 ≤ a1 ∧ a1.toNatClampNeg < 6 then (bnd (F_X8_narrow S12 (gI S12 53 0 a1.toNatClampNeg) a3) (fun r18 S19 =>
  if 0 ≤ (((60 : Int32) * a1) + a2) ∧ (((60 : Int32) * a1) + a2).toNatClampNeg < 360 then (some ((1 : Int32), (sJ S19 55 0 (((60 : Int32) * a1) + a2).toNatClampNeg r18)))
  else none))
  else none)))
  else none)
  else (some ((-11 : Int32), S2)))
  else none))
set_option maxRecDepth 10000 in
theorem c_X8_item (l : Launch) {D : va_G} {cy : Nat → ClassId} {ad : Nat → Nat → Nat} (hJ : wJ ad nM) (S : St) (a1 : Int32) (a2 : Int32) (a3 : Int64) : CT l yX8_item cX8_item 5 (some .int) 2 D cy ad nM toI okT [.ref (ad 8 0), .int a1, .int a2, .long a3] S (F_X8_item S a1 a2 a3) := by
  refine CT.of RX8 (by decide) rfl hJ (Nat.le_of_ble_eq_true rfl) rfl ?_
  intro p e s m below meth c cx
  unfold F_X8_item
  refine G_aload_n (q := 1) cx dX8_item_0 rfl rfl ?_
  refine G_iload_n (q := 2) cx dX8_item_1 rfl rfl ?_
  refine G_callV (q := 5) (d' := 1) (f := 8) (i := 0) (As := [.int a1]) (rest := []) (stk := fun r1 => [.int r1]) cx dX8_item_2 rfl cf_8 (Nat.le_of_ble_eq_true rfl) ml_RX8_373 rfl rfl (Nat.le_of_ble_eq_true rfl) (Nat.le_of_ble_eq_true rfl) (Nat.le_of_ble_eq_true rfl) (c_X8_isTape l hJ  _ a1) (fun _ => rfl) (fun r1 S2 h3 o4 => ?_)
  refine G_if_ne (q := 8) (t := 10) cx dX8_item_5 rfl (by decide) (fun c5 => ?_) (fun c5 => ?_)
  · refine G_aload_n (q := 11) cx dX8_item_10 rfl rfl ?_
    refine G_getr (q := 14) (g := 53) (i' := 0) cx dX8_item_11 rfl cf_8 fl_RX8_214 (Nat.le_of_ble_eq_true rfl) rfl rfl (Nat.le_of_ble_eq_true rfl) ?_
    refine G_iload_n (q := 15) cx dX8_item_14 rfl rfl ?_
    refine G_iald (q := 16) cx dX8_item_15 rfl (by decide) rfl rfl (Nat.le_of_ble_eq_true rfl) (fun g6 g7 => ?_)
    refine G_if_ge (q := 19) (t := 22) cx dX8_item_16 rfl (by decide) (fun c8 => ?_) (fun c8 => ?_)
    · refine G_aload_n (q := 23) cx dX8_item_22 rfl rfl ?_
      refine G_iload_n (q := 24) cx dX8_item_23 rfl rfl ?_
      refine G_iconst (q := 25) (v := (0 : Int32)) cx dX8_item_24 rfl (by decide) ?_
      refine G_aload_n (q := 26) cx dX8_item_25 rfl rfl ?_
      refine G_getr (q := 29) (g := 54) (i' := 0) cx dX8_item_26 rfl cf_8 fl_RX8_217 (Nat.le_of_ble_eq_true rfl) rfl rfl (Nat.le_of_ble_eq_true rfl) ?_
      refine G_iload_n (q := 30) cx dX8_item_29 rfl rfl ?_
      refine G_iald (q := 31) cx dX8_item_30 rfl (by decide) rfl rfl (Nat.le_of_ble_eq_true rfl) (fun g9 g10 => ?_)
      refine G_iconst (q := 32) (v := (1 : Int32)) cx dX8_item_31 rfl (by decide) ?_
      refine G_isub (q := 33) cx dX8_item_32 rfl ?_
      refine G_callV (q := 36) (d' := 0) (f := 8) (i := 0) (As := [.int a2, .int (0 : Int32), .int ((gI S2 54 0 a1.toNatClampNeg) - (1 : Int32))]) (rest := []) (stk := fun r11 => [.int r11]) cx dX8_item_33 rfl cf_8 (Nat.le_of_ble_eq_true rfl) ml_RX8_227 rfl rfl (Nat.le_of_ble_eq_true rfl) (Nat.le_of_ble_eq_true rfl) (Nat.le_of_ble_eq_true rfl) (c_X8_in l hJ  _ a2 (0 : Int32) ((gI S2 54 0 a1.toNatClampNeg) - (1 : Int32))) (fun _ => rfl) (fun r11 S12 h13 o14 => ?_)
      refine G_if_ne (q := 39) (t := 42) cx dX8_item_36 rfl (by decide) (fun c15 => ?_) (fun c15 => ?_)
      · refine G_aload_n (q := 43) cx dX8_item_42 rfl rfl ?_
        refine G_getr (q := 46) (g := 55) (i' := 0) cx dX8_item_43 rfl cf_8 fl_RX8_220 (Nat.le_of_ble_eq_true rfl) rfl rfl (Nat.le_of_ble_eq_true rfl) ?_
        refine G_bipush (q := 48) (v := (60 : Int32)) cx dX8_item_46 rfl (by decide) ?_
        refine G_iload_n (q := 49) cx dX8_item_48 rfl rfl ?_
        refine G_imul (q := 50) cx dX8_item_49 rfl ?_
        refine G_iload_n (q := 51) cx dX8_item_50 rfl rfl ?_
        refine G_iadd (q := 52) cx dX8_item_51 rfl ?_
        refine G_aload_n (q := 53) cx dX8_item_52 rfl rfl ?_
        refine G_aload_n (q := 54) cx dX8_item_53 rfl rfl ?_
        refine G_getr (q := 57) (g := 53) (i' := 0) cx dX8_item_54 rfl cf_8 fl_RX8_214 (Nat.le_of_ble_eq_true rfl) rfl rfl (Nat.le_of_ble_eq_true rfl) ?_
        refine G_iload_n (q := 58) cx dX8_item_57 rfl rfl ?_
        refine G_iald (q := 59) cx dX8_item_58 rfl (by decide) rfl rfl (Nat.le_of_ble_eq_true rfl) (fun g16 g17 => ?_)
        refine G_lload_n (q := 60) cx dX8_item_59 rfl rfl ?_
        refine G_callV (q := 63) (d' := 0) (f := 8) (i := 0) (As := [.int (gI S12 53 0 a1.toNatClampNeg), .long a3]) (rest := [.int (((60 : Int32) * a1) + a2), .ref (ad 55 0)]) (stk := fun r18 => [.long r18, .int (((60 : Int32) * a1) + a2), .ref (ad 55 0)]) cx dX8_item_60 rfl cf_8 (Nat.le_of_ble_eq_true rfl) ml_RX8_400 rfl rfl (Nat.le_of_ble_eq_true rfl) (Nat.le_of_ble_eq_true rfl) (Nat.le_of_ble_eq_true rfl) (c_X8_narrow l hJ  _ (gI S12 53 0 a1.toNatClampNeg) a3) (fun _ => rfl) (fun r18 S19 h20 o21 => ?_)
        refine G_last (q := 64) cx dX8_item_63 rfl (by decide) rfl rfl (Nat.le_of_ble_eq_true rfl) (fun g22 g23 => ?_)
        refine G_iconst (q := 65) (v := (1 : Int32)) cx dX8_item_64 rfl (by decide) ?_
        exact G_iret cx rfl dX8_item_65 trivial
      · refine G_bipush (q := 41) (v := (-13 : Int32)) cx dX8_item_39 rfl (by decide) ?_
        exact G_iret cx rfl dX8_item_41 trivial
    · refine G_bipush (q := 21) (v := (-11 : Int32)) cx dX8_item_19 rfl (by decide) ?_
      exact G_iret cx rfl dX8_item_21 trivial
  · refine G_iconst (q := 9) (v := (-1 : Int32)) cx dX8_item_8 rfl (by decide) ?_
    exact G_iret cx rfl dX8_item_9 trivial
def F_X8_read (S : St) (a1 : Int32) (a2 : Int32) : Option (Int64 × St) :=
  bnd (F_X8_isTape S a1) (fun r1 S2 =>
  if r1 = 0 then (some ((-9223372036854775808 : Int64), S2))
  else (if 0 ≤ a1 ∧ a1.toNatClampNeg < 6 then (if (gI S2 53 0 a1.toNatClampNeg) < 0 then (some ((-9223372036854775808 : Int64), S2))
  else (if 0 ≤ a1 ∧ a1.toNatClampNeg < 6 then (bnd (F_X8_in S2 a2 (0 : Int32) ((gI S2 54 0 a1.toNatClampNeg) - (1 : Int32))) (fun r11 S12 =>
  if r11 = 0 then (some ((-9223372036854775808 : Int64), S12))
  else (if 0 ≤ (((60 : Int32) * a1) + a2) ∧ (((60 : Int32) * a1) + a2).toNatClampNeg < 360 then (some (gJ S12 55 0 (((60 : Int32) * a1) + a2).toNatClampNeg, S12))
  else none)))
  else none))
  else none))
set_option maxRecDepth 10000 in
theorem c_X8_read (l : Launch) {D : va_G} {cy : Nat → ClassId} {ad : Nat → Nat → Nat} (hJ : wJ ad nM) (S : St) (a1 : Int32) (a2 : Int32) : CT l yX8_read cX8_read 3 (some .long) 2 D cy ad nM toJ okT [.ref (ad 8 0), .int a1, .int a2] S (F_X8_read S a1 a2) := by
  refine CT.of RX8 (by decide) rfl hJ (Nat.le_of_ble_eq_true rfl) rfl ?_
  intro p e s m below meth c cx
  unfold F_X8_read
  refine G_aload_n (q := 1) cx dX8_read_0 rfl rfl ?_
  refine G_iload_n (q := 2) cx dX8_read_1 rfl rfl ?_
  refine G_callV (q := 5) (d' := 1) (f := 8) (i := 0) (As := [.int a1]) (rest := []) (stk := fun r1 => [.int r1]) cx dX8_read_2 rfl cf_8 (Nat.le_of_ble_eq_true rfl) ml_RX8_373 rfl rfl (Nat.le_of_ble_eq_true rfl) (Nat.le_of_ble_eq_true rfl) (Nat.le_of_ble_eq_true rfl) (c_X8_isTape l hJ  _ a1) (fun _ => rfl) (fun r1 S2 h3 o4 => ?_)
  refine G_if_eq (q := 8) (t := 34) cx dX8_read_5 rfl (by decide) (fun c5 => ?_) (fun c5 => ?_)
  · refine G_ldc2_w (q := 37) (v := (-9223372036854775808 : Int64)) cx dX8_read_34 rfl (inG (inT 1271 (by decide +kernel)) rfl) ?_
    refine G_goto (t := 51) cx dX8_read_37 (by decide) ?_
    exact G_lret cx rfl dX8_read_51 trivial
  refine G_aload_n (q := 9) cx dX8_read_8 rfl rfl ?_
  refine G_getr (q := 12) (g := 53) (i' := 0) cx dX8_read_9 rfl cf_8 fl_RX8_214 (Nat.le_of_ble_eq_true rfl) rfl rfl (Nat.le_of_ble_eq_true rfl) ?_
  refine G_iload_n (q := 13) cx dX8_read_12 rfl rfl ?_
  refine G_iald (q := 14) cx dX8_read_13 rfl (by decide) rfl rfl (Nat.le_of_ble_eq_true rfl) (fun g6 g7 => ?_)
  refine G_if_lt (q := 17) (t := 34) cx dX8_read_14 rfl (by decide) (fun c8 => ?_) (fun c8 => ?_)
  · refine G_ldc2_w (q := 37) (v := (-9223372036854775808 : Int64)) cx dX8_read_34 rfl (inG (inT 1271 (by decide +kernel)) rfl) ?_
    refine G_goto (t := 51) cx dX8_read_37 (by decide) ?_
    exact G_lret cx rfl dX8_read_51 trivial
  refine G_aload_n (q := 18) cx dX8_read_17 rfl rfl ?_
  refine G_iload_n (q := 19) cx dX8_read_18 rfl rfl ?_
  refine G_iconst (q := 20) (v := (0 : Int32)) cx dX8_read_19 rfl (by decide) ?_
  refine G_aload_n (q := 21) cx dX8_read_20 rfl rfl ?_
  refine G_getr (q := 24) (g := 54) (i' := 0) cx dX8_read_21 rfl cf_8 fl_RX8_217 (Nat.le_of_ble_eq_true rfl) rfl rfl (Nat.le_of_ble_eq_true rfl) ?_
  refine G_iload_n (q := 25) cx dX8_read_24 rfl rfl ?_
  refine G_iald (q := 26) cx dX8_read_25 rfl (by decide) rfl rfl (Nat.le_of_ble_eq_true rfl) (fun g9 g10 => ?_)
  refine G_iconst (q := 27) (v := (1 : Int32)) cx dX8_read_26 rfl (by decide) ?_
  refine G_isub (q := 28) cx dX8_read_27 rfl ?_
  refine G_callV (q := 31) (d' := 0) (f := 8) (i := 0) (As := [.int a2, .int (0 : Int32), .int ((gI S2 54 0 a1.toNatClampNeg) - (1 : Int32))]) (rest := []) (stk := fun r11 => [.int r11]) cx dX8_read_28 rfl cf_8 (Nat.le_of_ble_eq_true rfl) ml_RX8_227 rfl rfl (Nat.le_of_ble_eq_true rfl) (Nat.le_of_ble_eq_true rfl) (Nat.le_of_ble_eq_true rfl) (c_X8_in l hJ  _ a2 (0 : Int32) ((gI S2 54 0 a1.toNatClampNeg) - (1 : Int32))) (fun _ => rfl) (fun r11 S12 h13 o14 => ?_)
  refine G_if_ne (q := 34) (t := 40) cx dX8_read_31 rfl (by decide) (fun c15 => ?_) (fun c15 => ?_)
  · refine G_aload_n (q := 41) cx dX8_read_40 rfl rfl ?_
    refine G_getr (q := 44) (g := 55) (i' := 0) cx dX8_read_41 rfl cf_8 fl_RX8_220 (Nat.le_of_ble_eq_true rfl) rfl rfl (Nat.le_of_ble_eq_true rfl) ?_
    refine G_bipush (q := 46) (v := (60 : Int32)) cx dX8_read_44 rfl (by decide) ?_
    refine G_iload_n (q := 47) cx dX8_read_46 rfl rfl ?_
    refine G_imul (q := 48) cx dX8_read_47 rfl ?_
    refine G_iload_n (q := 49) cx dX8_read_48 rfl rfl ?_
    refine G_iadd (q := 50) cx dX8_read_49 rfl ?_
    refine G_lald (q := 51) cx dX8_read_50 rfl (by decide) rfl rfl (Nat.le_of_ble_eq_true rfl) (fun g16 g17 => ?_)
    exact G_lret cx rfl dX8_read_51 trivial
  · refine G_ldc2_w (q := 37) (v := (-9223372036854775808 : Int64)) cx dX8_read_34 rfl (inG (inT 1271 (by decide +kernel)) rfl) ?_
    refine G_goto (t := 51) cx dX8_read_37 (by decide) ?_
    exact G_lret cx rfl dX8_read_51 trivial
def L_X8_shift_141 (a3 : Int32) (a4 : Int32) (a5 : Int32) (K_32 : Int32 → St → Option (Int32 × St)) : Nat → Int32 → St → Option (Int32 × St)
  | 0, _, _ => none
  | n + 1, x6_32, S_32 =>
    if a5 ≤ x6_32 then (K_32 x6_32 S_32)
    else (if 0 ≤ x6_32 ∧ x6_32.toNatClampNeg < 60 then (if 0 ≤ ((((60 : Int32) * a3) + a4) + x6_32) ∧ ((((60 : Int32) * a3) + a4) + x6_32).toNatClampNeg < 360 then (L_X8_shift_141 a3 a4 a5 K_32 n (x6_32 + 1) (sJ S_32 55 0 ((((60 : Int32) * a3) + a4) + x6_32).toNatClampNeg (gJ S_32 56 0 x6_32.toNatClampNeg)))
    else none)
    else none)
def L_X8_shift_104 (a1 : Int32) (a2 : Int32) (a5 : Int32) (K_31 : Int32 → St → Option (Int32 × St)) : Nat → Int32 → St → Option (Int32 × St)
  | 0, _, _ => none
  | n + 1, x6_31, S_31 =>
    if a5 ≤ x6_31 then (K_31 x6_31 S_31)
    else (if 0 ≤ ((((60 : Int32) * a1) + a2) + x6_31) ∧ ((((60 : Int32) * a1) + a2) + x6_31).toNatClampNeg < 360 then (if 0 ≤ x6_31 ∧ x6_31.toNatClampNeg < 60 then (L_X8_shift_104 a1 a2 a5 K_31 n (x6_31 + 1) (sJ S_31 56 0 x6_31.toNatClampNeg (gJ S_31 55 0 ((((60 : Int32) * a1) + a2) + x6_31).toNatClampNeg)))
    else none)
    else none)
def F_X8_shift (S : St) (a1 : Int32) (a2 : Int32) (a3 : Int32) (a4 : Int32) (a5 : Int32) : Option (Int32 × St) :=
  bnd (F_X8_isTape S a1) (fun r1 S2 =>
  if r1 = 0 then (some ((-1 : Int32), S2))
  else (bnd (F_X8_isTape S2 a3) (fun r6 S7 =>
  if r6 = 0 then (some ((-1 : Int32), S7))
  else (if 0 ≤ a1 ∧ a1.toNatClampNeg < 6 then (if (gI S7 53 0 a1.toNatClampNeg) < 0 then (some ((-11 : Int32), S7))
  else (if 0 ≤ a3 ∧ a3.toNatClampNeg < 6 then (if 0 ≤ (gI S7 53 0 a3.toNatClampNeg) then (if 0 ≤ a1 ∧ a1.toNatClampNeg < 6 then (if 0 ≤ a3 ∧ a3.toNatClampNeg < 6 then (if (gI S7 53 0 a1.toNatClampNeg) = (gI S7 53 0 a3.toNatClampNeg) then (if a5 < 0 then (some ((-13 : Int32), S7))
  else (if a2 < 0 then (some ((-13 : Int32), S7))
  else (if a4 < 0 then (some ((-13 : Int32), S7))
  else (if 0 ≤ a1 ∧ a1.toNatClampNeg < 6 then (if ((gI S7 54 0 a1.toNatClampNeg) - a5) < a2 then (some ((-13 : Int32), S7))
  else (if 0 ≤ a3 ∧ a3.toNatClampNeg < 6 then (if a4 ≤ ((gI S7 54 0 a3.toNatClampNeg) - a5) then (L_X8_shift_104 a1 a2 a5 
  (fun y6_31 T_31 => L_X8_shift_141 a3 a4 a5 
  (fun y6_32 T_32 => some (a5, T_32)) 1000 (0 : Int32) T_31) 1000 (0 : Int32) S7)
  else (some ((-13 : Int32), S7)))
  else none))
  else none))))
  else (some ((-12 : Int32), S7)))
  else none)
  else none)
  else (some ((-11 : Int32), S7)))
  else none))
  else none))))
set_option maxRecDepth 10000 in
theorem c_X8_shift (l : Launch) {D : va_G} {cy : Nat → ClassId} {ad : Nat → Nat → Nat} (hJ : wJ ad nM) (S : St) (a1 : Int32) (a2 : Int32) (a3 : Int32) (a4 : Int32) (a5 : Int32) : CT l yX8_shift cX8_shift 7 (some .int) 2 D cy ad nM toI okT [.ref (ad 8 0), .int a1, .int a2, .int a3, .int a4, .int a5] S (F_X8_shift S a1 a2 a3 a4 a5) := by
  refine CT.of RX8 (by decide) rfl hJ (Nat.le_of_ble_eq_true rfl) rfl ?_
  intro p e s m below meth c cx
  unfold F_X8_shift
  refine G_aload_n (q := 1) cx dX8_shift_0 rfl rfl ?_
  refine G_iload_n (q := 2) cx dX8_shift_1 rfl rfl ?_
  refine G_callV (q := 5) (d' := 1) (f := 8) (i := 0) (As := [.int a1]) (rest := []) (stk := fun r1 => [.int r1]) cx dX8_shift_2 rfl cf_8 (Nat.le_of_ble_eq_true rfl) ml_RX8_373 rfl rfl (Nat.le_of_ble_eq_true rfl) (Nat.le_of_ble_eq_true rfl) (Nat.le_of_ble_eq_true rfl) (c_X8_isTape l hJ  _ a1) (fun _ => rfl) (fun r1 S2 h3 o4 => ?_)
  refine G_if_eq (q := 8) (t := 16) cx dX8_shift_5 rfl (by decide) (fun c5 => ?_) (fun c5 => ?_)
  · refine G_iconst (q := 17) (v := (-1 : Int32)) cx dX8_shift_16 rfl (by decide) ?_
    exact G_iret cx rfl dX8_shift_17 trivial
  refine G_aload_n (q := 9) cx dX8_shift_8 rfl rfl ?_
  refine G_iload_n (q := 10) cx dX8_shift_9 rfl rfl ?_
  refine G_callV (q := 13) (d' := 1) (f := 8) (i := 0) (As := [.int a3]) (rest := []) (stk := fun r6 => [.int r6]) cx dX8_shift_10 rfl cf_8 (Nat.le_of_ble_eq_true rfl) ml_RX8_373 rfl rfl (Nat.le_of_ble_eq_true rfl) (Nat.le_of_ble_eq_true rfl) (Nat.le_of_ble_eq_true rfl) (c_X8_isTape l hJ  _ a3) (fun _ => rfl) (fun r6 S7 h8 o9 => ?_)
  refine G_if_ne (q := 16) (t := 18) cx dX8_shift_13 rfl (by decide) (fun c10 => ?_) (fun c10 => ?_)
  · refine G_aload_n (q := 19) cx dX8_shift_18 rfl rfl ?_
    refine G_getr (q := 22) (g := 53) (i' := 0) cx dX8_shift_19 rfl cf_8 fl_RX8_214 (Nat.le_of_ble_eq_true rfl) rfl rfl (Nat.le_of_ble_eq_true rfl) ?_
    refine G_iload_n (q := 23) cx dX8_shift_22 rfl rfl ?_
    refine G_iald (q := 24) cx dX8_shift_23 rfl (by decide) rfl rfl (Nat.le_of_ble_eq_true rfl) (fun g11 g12 => ?_)
    refine G_if_lt (q := 27) (t := 36) cx dX8_shift_24 rfl (by decide) (fun c13 => ?_) (fun c13 => ?_)
    · refine G_bipush (q := 38) (v := (-11 : Int32)) cx dX8_shift_36 rfl (by decide) ?_
      exact G_iret cx rfl dX8_shift_38 trivial
    refine G_aload_n (q := 28) cx dX8_shift_27 rfl rfl ?_
    refine G_getr (q := 31) (g := 53) (i' := 0) cx dX8_shift_28 rfl cf_8 fl_RX8_214 (Nat.le_of_ble_eq_true rfl) rfl rfl (Nat.le_of_ble_eq_true rfl) ?_
    refine G_iload_n (q := 32) cx dX8_shift_31 rfl rfl ?_
    refine G_iald (q := 33) cx dX8_shift_32 rfl (by decide) rfl rfl (Nat.le_of_ble_eq_true rfl) (fun g14 g15 => ?_)
    refine G_if_ge (q := 36) (t := 39) cx dX8_shift_33 rfl (by decide) (fun c16 => ?_) (fun c16 => ?_)
    · refine G_aload_n (q := 40) cx dX8_shift_39 rfl rfl ?_
      refine G_getr (q := 43) (g := 53) (i' := 0) cx dX8_shift_40 rfl cf_8 fl_RX8_214 (Nat.le_of_ble_eq_true rfl) rfl rfl (Nat.le_of_ble_eq_true rfl) ?_
      refine G_iload_n (q := 44) cx dX8_shift_43 rfl rfl ?_
      refine G_iald (q := 45) cx dX8_shift_44 rfl (by decide) rfl rfl (Nat.le_of_ble_eq_true rfl) (fun g17 g18 => ?_)
      refine G_aload_n (q := 46) cx dX8_shift_45 rfl rfl ?_
      refine G_getr (q := 49) (g := 53) (i' := 0) cx dX8_shift_46 rfl cf_8 fl_RX8_214 (Nat.le_of_ble_eq_true rfl) rfl rfl (Nat.le_of_ble_eq_true rfl) ?_
      refine G_iload_n (q := 50) cx dX8_shift_49 rfl rfl ?_
      refine G_iald (q := 51) cx dX8_shift_50 rfl (by decide) rfl rfl (Nat.le_of_ble_eq_true rfl) (fun g19 g20 => ?_)
      refine G_icmp_eq (q := 54) (t := 57) cx dX8_shift_51 rfl (by decide) (fun c21 => ?_) (fun c21 => ?_)
      · refine G_iload (q := 59) cx dX8_shift_57 rfl rfl ?_
        refine G_if_lt (q := 62) (t := 98) cx dX8_shift_59 rfl (by decide) (fun c22 => ?_) (fun c22 => ?_)
        · refine G_bipush (q := 100) (v := (-13 : Int32)) cx dX8_shift_98 rfl (by decide) ?_
          exact G_iret cx rfl dX8_shift_100 trivial
        refine G_iload_n (q := 63) cx dX8_shift_62 rfl rfl ?_
        refine G_if_lt (q := 66) (t := 98) cx dX8_shift_63 rfl (by decide) (fun c23 => ?_) (fun c23 => ?_)
        · refine G_bipush (q := 100) (v := (-13 : Int32)) cx dX8_shift_98 rfl (by decide) ?_
          exact G_iret cx rfl dX8_shift_100 trivial
        refine G_iload (q := 68) cx dX8_shift_66 rfl rfl ?_
        refine G_if_lt (q := 71) (t := 98) cx dX8_shift_68 rfl (by decide) (fun c24 => ?_) (fun c24 => ?_)
        · refine G_bipush (q := 100) (v := (-13 : Int32)) cx dX8_shift_98 rfl (by decide) ?_
          exact G_iret cx rfl dX8_shift_100 trivial
        refine G_iload_n (q := 72) cx dX8_shift_71 rfl rfl ?_
        refine G_aload_n (q := 73) cx dX8_shift_72 rfl rfl ?_
        refine G_getr (q := 76) (g := 54) (i' := 0) cx dX8_shift_73 rfl cf_8 fl_RX8_217 (Nat.le_of_ble_eq_true rfl) rfl rfl (Nat.le_of_ble_eq_true rfl) ?_
        refine G_iload_n (q := 77) cx dX8_shift_76 rfl rfl ?_
        refine G_iald (q := 78) cx dX8_shift_77 rfl (by decide) rfl rfl (Nat.le_of_ble_eq_true rfl) (fun g25 g26 => ?_)
        refine G_iload (q := 80) cx dX8_shift_78 rfl rfl ?_
        refine G_isub (q := 81) cx dX8_shift_80 rfl ?_
        refine G_icmp_gt (q := 84) (t := 98) cx dX8_shift_81 rfl (by decide) (fun c27 => ?_) (fun c27 => ?_)
        · refine G_bipush (q := 100) (v := (-13 : Int32)) cx dX8_shift_98 rfl (by decide) ?_
          exact G_iret cx rfl dX8_shift_100 trivial
        refine G_iload (q := 86) cx dX8_shift_84 rfl rfl ?_
        refine G_aload_n (q := 87) cx dX8_shift_86 rfl rfl ?_
        refine G_getr (q := 90) (g := 54) (i' := 0) cx dX8_shift_87 rfl cf_8 fl_RX8_217 (Nat.le_of_ble_eq_true rfl) rfl rfl (Nat.le_of_ble_eq_true rfl) ?_
        refine G_iload_n (q := 91) cx dX8_shift_90 rfl rfl ?_
        refine G_iald (q := 92) cx dX8_shift_91 rfl (by decide) rfl rfl (Nat.le_of_ble_eq_true rfl) (fun g28 g29 => ?_)
        refine G_iload (q := 94) cx dX8_shift_92 rfl rfl ?_
        refine G_isub (q := 95) cx dX8_shift_94 rfl ?_
        refine G_icmp_le (q := 98) (t := 101) cx dX8_shift_95 rfl (by decide) (fun c30 => ?_) (fun c30 => ?_)
        · refine G_iconst (q := 102) (v := (0 : Int32)) cx dX8_shift_101 rfl (by decide) ?_
          refine G_istore (q := 104) (ls' := [(6, .int (0 : Int32)), (0, .ref (ad 8 0)), (1, .int a1), (2, .int a2), (3, .int a3), (4, .int a4), (5, .int a5)]) cx dX8_shift_102 rfl (Nat.le_of_ble_eq_true rfl) rfl ?_
          have lp_31 : ∀ (K_31 : Int32 → St → Option (Int32 × St)) (hK_31 : ∀ (y6_31 : Int32) (T_31 : St), TG p l e 2 s m ([.ref (ad 8 0), .int a1, .int a2, .int a3, .int a4, .int a5] : List Value).toArray below meth c D cy ad nM toI okT T_31 138 [(6, .int y6_31), (0, .ref (ad 8 0)), (1, .int a1), (2, .int a2), (3, .int a3), (4, .int a4), (5, .int a5)] [] (K_31 y6_31 T_31)), ∀ (n_31 : Nat) (x6_31 : Int32) (S_31 : St), TG p l e 2 s m ([.ref (ad 8 0), .int a1, .int a2, .int a3, .int a4, .int a5] : List Value).toArray below meth c D cy ad nM toI okT S_31 104 [(6, .int x6_31), (0, .ref (ad 8 0)), (1, .int a1), (2, .int a2), (3, .int a3), (4, .int a4), (5, .int a5)] [] (L_X8_shift_104 a1 a2 a5 K_31 n_31 x6_31 S_31) := by
            intro K_31 hK_31 n_31
            induction n_31 with
            | zero => intros; exact G_none
            | succ n_31 ih_31 =>
              intro x6_31 S_31
              rw [L_X8_shift_104.eq_2]
              refine G_iload (q := 106) cx dX8_shift_104 rfl rfl ?_
              refine G_iload (q := 108) cx dX8_shift_106 rfl rfl ?_
              refine G_icmp_ge (q := 111) (t := 138) cx dX8_shift_108 rfl (by decide) (fun c38 => ?_) (fun c38 => ?_)
              · exact G_loc [0, 1, 2, 3, 4, 5, 6] rfl (hK_31 x6_31 S_31)
              refine G_aload_n (q := 112) cx dX8_shift_111 rfl rfl ?_
              refine G_getr (q := 115) (g := 56) (i' := 0) cx dX8_shift_112 rfl cf_8 fl_RX8_224 (Nat.le_of_ble_eq_true rfl) rfl rfl (Nat.le_of_ble_eq_true rfl) ?_
              refine G_iload (q := 117) cx dX8_shift_115 rfl rfl ?_
              refine G_aload_n (q := 118) cx dX8_shift_117 rfl rfl ?_
              refine G_getr (q := 121) (g := 55) (i' := 0) cx dX8_shift_118 rfl cf_8 fl_RX8_220 (Nat.le_of_ble_eq_true rfl) rfl rfl (Nat.le_of_ble_eq_true rfl) ?_
              refine G_bipush (q := 123) (v := (60 : Int32)) cx dX8_shift_121 rfl (by decide) ?_
              refine G_iload_n (q := 124) cx dX8_shift_123 rfl rfl ?_
              refine G_imul (q := 125) cx dX8_shift_124 rfl ?_
              refine G_iload_n (q := 126) cx dX8_shift_125 rfl rfl ?_
              refine G_iadd (q := 127) cx dX8_shift_126 rfl ?_
              refine G_iload (q := 129) cx dX8_shift_127 rfl rfl ?_
              refine G_iadd (q := 130) cx dX8_shift_129 rfl ?_
              refine G_lald (q := 131) cx dX8_shift_130 rfl (by decide) rfl rfl (Nat.le_of_ble_eq_true rfl) (fun g39 g40 => ?_)
              refine G_last (q := 132) cx dX8_shift_131 rfl (by decide) rfl rfl (Nat.le_of_ble_eq_true rfl) (fun g41 g42 => ?_)
              refine G_iinc (q := 135) (j := 0) (v := x6_31 + 1) (ls' := [(6, .int (x6_31 + 1)), (0, .ref (ad 8 0)), (1, .int a1), (2, .int a2), (3, .int a3), (4, .int a4), (5, .int a5)]) cx dX8_shift_132 rfl rfl rfl (Nat.le_of_ble_eq_true rfl) rfl ?_
              refine G_goto (t := 104) cx dX8_shift_135 (by decide) ?_
              exact G_loc [0, 1, 2, 3, 4, 5, 6] rfl (ih_31 (x6_31 + 1) (sJ S_31 56 0 x6_31.toNatClampNeg (gJ S_31 55 0 ((((60 : Int32) * a1) + a2) + x6_31).toNatClampNeg)))
          refine G_loc [0, 1, 2, 3, 4, 5, 6] rfl (lp_31 _ (fun y6_31 T_31 => ?_) 1000 (0 : Int32) S7)
          refine G_iconst (q := 139) (v := (0 : Int32)) cx dX8_shift_138 rfl (by decide) ?_
          refine G_istore (q := 141) (ls' := [(6, .int (0 : Int32)), (0, .ref (ad 8 0)), (1, .int a1), (2, .int a2), (3, .int a3), (4, .int a4), (5, .int a5)]) cx dX8_shift_139 rfl (Nat.le_of_ble_eq_true rfl) rfl ?_
          have lp_32 : ∀ (K_32 : Int32 → St → Option (Int32 × St)) (hK_32 : ∀ (y6_32 : Int32) (T_32 : St), TG p l e 2 s m ([.ref (ad 8 0), .int a1, .int a2, .int a3, .int a4, .int a5] : List Value).toArray below meth c D cy ad nM toI okT T_32 176 [(6, .int y6_32), (0, .ref (ad 8 0)), (1, .int a1), (2, .int a2), (3, .int a3), (4, .int a4), (5, .int a5)] [] (K_32 y6_32 T_32)), ∀ (n_32 : Nat) (x6_32 : Int32) (S_32 : St), TG p l e 2 s m ([.ref (ad 8 0), .int a1, .int a2, .int a3, .int a4, .int a5] : List Value).toArray below meth c D cy ad nM toI okT S_32 141 [(6, .int x6_32), (0, .ref (ad 8 0)), (1, .int a1), (2, .int a2), (3, .int a3), (4, .int a4), (5, .int a5)] [] (L_X8_shift_141 a3 a4 a5 K_32 n_32 x6_32 S_32) := by
            intro K_32 hK_32 n_32
            induction n_32 with
            | zero => intros; exact G_none
            | succ n_32 ih_32 =>
              intro x6_32 S_32
              rw [L_X8_shift_141.eq_2]
              refine G_iload (q := 143) cx dX8_shift_141 rfl rfl ?_
              refine G_iload (q := 145) cx dX8_shift_143 rfl rfl ?_
              refine G_icmp_ge (q := 148) (t := 176) cx dX8_shift_145 rfl (by decide) (fun c33 => ?_) (fun c33 => ?_)
              · exact G_loc [0, 1, 2, 3, 4, 5, 6] rfl (hK_32 x6_32 S_32)
              refine G_aload_n (q := 149) cx dX8_shift_148 rfl rfl ?_
              refine G_getr (q := 152) (g := 55) (i' := 0) cx dX8_shift_149 rfl cf_8 fl_RX8_220 (Nat.le_of_ble_eq_true rfl) rfl rfl (Nat.le_of_ble_eq_true rfl) ?_
              refine G_bipush (q := 154) (v := (60 : Int32)) cx dX8_shift_152 rfl (by decide) ?_
              refine G_iload_n (q := 155) cx dX8_shift_154 rfl rfl ?_
              refine G_imul (q := 156) cx dX8_shift_155 rfl ?_
              refine G_iload (q := 158) cx dX8_shift_156 rfl rfl ?_
              refine G_iadd (q := 159) cx dX8_shift_158 rfl ?_
              refine G_iload (q := 161) cx dX8_shift_159 rfl rfl ?_
              refine G_iadd (q := 162) cx dX8_shift_161 rfl ?_
              refine G_aload_n (q := 163) cx dX8_shift_162 rfl rfl ?_
              refine G_getr (q := 166) (g := 56) (i' := 0) cx dX8_shift_163 rfl cf_8 fl_RX8_224 (Nat.le_of_ble_eq_true rfl) rfl rfl (Nat.le_of_ble_eq_true rfl) ?_
              refine G_iload (q := 168) cx dX8_shift_166 rfl rfl ?_
              refine G_lald (q := 169) cx dX8_shift_168 rfl (by decide) rfl rfl (Nat.le_of_ble_eq_true rfl) (fun g34 g35 => ?_)
              refine G_last (q := 170) cx dX8_shift_169 rfl (by decide) rfl rfl (Nat.le_of_ble_eq_true rfl) (fun g36 g37 => ?_)
              refine G_iinc (q := 173) (j := 0) (v := x6_32 + 1) (ls' := [(6, .int (x6_32 + 1)), (0, .ref (ad 8 0)), (1, .int a1), (2, .int a2), (3, .int a3), (4, .int a4), (5, .int a5)]) cx dX8_shift_170 rfl rfl rfl (Nat.le_of_ble_eq_true rfl) rfl ?_
              refine G_goto (t := 141) cx dX8_shift_173 (by decide) ?_
              exact G_loc [0, 1, 2, 3, 4, 5, 6] rfl (ih_32 (x6_32 + 1) (sJ S_32 55 0 ((((60 : Int32) * a3) + a4) + x6_32).toNatClampNeg (gJ S_32 56 0 x6_32.toNatClampNeg)))
          refine G_loc [0, 1, 2, 3, 4, 5, 6] rfl (lp_32 _ (fun y6_32 T_32 => ?_) 1000 (0 : Int32) T_31)
          refine G_iload (q := 178) cx dX8_shift_176 rfl rfl ?_
          exact G_iret cx rfl dX8_shift_178 trivial
        · refine G_bipush (q := 100) (v := (-13 : Int32)) cx dX8_shift_98 rfl (by decide) ?_
          exact G_iret cx rfl dX8_shift_100 trivial
      · refine G_bipush (q := 56) (v := (-12 : Int32)) cx dX8_shift_54 rfl (by decide) ?_
        exact G_iret cx rfl dX8_shift_56 trivial
    · refine G_bipush (q := 38) (v := (-11 : Int32)) cx dX8_shift_36 rfl (by decide) ?_
      exact G_iret cx rfl dX8_shift_38 trivial
  · refine G_iconst (q := 17) (v := (-1 : Int32)) cx dX8_shift_16 rfl (by decide) ?_
    exact G_iret cx rfl dX8_shift_17 trivial
