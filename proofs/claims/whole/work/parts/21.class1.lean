def F_X0_begin (S : St) (i0 : Nat) : Option (Unit × St) :=
  some ((), (sI (sI (sI S 0 i0 1 (0 : Int32)) 0 i0 2 (400 : Int32)) 0 i0 3 (80 : Int32)))
set_option maxRecDepth 10000 in
theorem c_X0_begin (l : Launch) {D : va_G} {cy : Nat → ClassId} {ad : Nat → Nat → Nat} {k : Nat} (hJ : wJ ad (nX k)) (S : St) (i0 : Nat) (h_i0 : i0 < 1 + k) : CT l yX0_begin cX0_begin 1 none 0 D cy ad (nX k) toU okT [.ref (ad 0 i0)] S (F_X0_begin S i0) := by
  refine CT.of RX0 (by decide) rfl hJ (Nat.le_of_ble_eq_true rfl) rfl ?_
  intro p e s m below meth c cx
  unfold F_X0_begin
  refine G_aload_n (q := 1) cx dX0_begin_0 rfl rfl ?_
  refine G_iconst (q := 2) (v := (0 : Int32)) cx dX0_begin_1 rfl (by decide) ?_
  refine G_puti (q := 5) cx dX0_begin_2 rfl cf_0 fl_RX0_15 (Nat.le_of_ble_eq_true rfl) rfl rfl rfl rfl rfl h_i0 ?_
  refine G_aload_n (q := 6) cx dX0_begin_5 rfl rfl ?_
  refine G_sipush (q := 9) (v := (400 : Int32)) cx dX0_begin_6 rfl (by decide) ?_
  refine G_puti (q := 12) cx dX0_begin_9 rfl cf_0 fl_RX0_19 (Nat.le_of_ble_eq_true rfl) rfl rfl rfl rfl rfl h_i0 ?_
  refine G_aload_n (q := 13) cx dX0_begin_12 rfl rfl ?_
  refine G_bipush (q := 15) (v := (80 : Int32)) cx dX0_begin_13 rfl (by decide) ?_
  refine G_puti (q := 18) cx dX0_begin_15 rfl cf_0 fl_RX0_22 (Nat.le_of_ble_eq_true rfl) rfl rfl rfl rfl rfl h_i0 ?_
  exact G_vret cx rfl dX0_begin_18 trivial
def F_X0_valueOf (S : St) (a0 : Int32) (a1 : Nat) (a2 : Int32) (a3 : Int32) : Option (Int32 × St) :=
  if a0 = 0 then (some (gI S 3 a1 0, S))
  else (if a0 = 1 then (some (gI S 3 a1 2, S))
  else (if a0 = 2 then (some (a2, S))
  else (if a0 = 3 then (some (a3, S))
  else (if a0 = 4 then (some (gI S 3 a1 3, S))
  else (some ((gI S 3 a1 4) / (10 : Int32), S))))))
set_option maxRecDepth 10000 in
theorem c_X0_valueOf (l : Launch) {D : va_G} {cy : Nat → ClassId} {ad : Nat → Nat → Nat} {k : Nat} (hJ : wJ ad (nX k)) (S : St) (a0 : Int32) (a1 : Nat) (a2 : Int32) (a3 : Int32) (h_a1 : a1 < 12) : CT l yX0_valueOf cX0_valueOf 4 (some .int) 0 D cy ad (nX k) toI okT [.int a0, .ref (ad 3 a1), .int a2, .int a3] S (F_X0_valueOf S a0 a1 a2 a3) := by
  refine CT.of RX0 (by decide) rfl hJ (Nat.le_of_ble_eq_true rfl) rfl ?_
  intro p e s m below meth c cx
  unfold F_X0_valueOf
  refine G_iload_n (q := 1) cx dX0_valueOf_0 rfl rfl ?_
  refine G_case (fun w1 => ?_) (fun w1 => ?_)
  · refine G_tswIn (t := 36) (off := 35) cx dX0_valueOf_1 w1 (by decide) (by decide) (by decide) (by decide) ?_
    refine G_aload_n (q := 37) cx dX0_valueOf_36 rfl rfl ?_
    refine G_geti (q := 40) cx dX0_valueOf_37 rfl cf_3 fl_RX0_33 (Nat.le_of_ble_eq_true rfl) rfl h_a1 ?_
    exact G_iret cx rfl dX0_valueOf_40 trivial
  refine G_case (fun w2 => ?_) (fun w2 => ?_)
  · refine G_tswIn (t := 41) (off := 40) cx dX0_valueOf_1 w2 (by decide) (by decide) (by decide) (by decide) ?_
    refine G_aload_n (q := 42) cx dX0_valueOf_41 rfl rfl ?_
    refine G_geti (q := 45) cx dX0_valueOf_42 rfl cf_3 fl_RX0_38 (Nat.le_of_ble_eq_true rfl) rfl h_a1 ?_
    exact G_iret cx rfl dX0_valueOf_45 trivial
  refine G_case (fun w3 => ?_) (fun w3 => ?_)
  · refine G_tswIn (t := 46) (off := 45) cx dX0_valueOf_1 w3 (by decide) (by decide) (by decide) (by decide) ?_
    refine G_iload_n (q := 47) cx dX0_valueOf_46 rfl rfl ?_
    exact G_iret cx rfl dX0_valueOf_47 trivial
  refine G_case (fun w4 => ?_) (fun w4 => ?_)
  · refine G_tswIn (t := 48) (off := 47) cx dX0_valueOf_1 w4 (by decide) (by decide) (by decide) (by decide) ?_
    refine G_iload_n (q := 49) cx dX0_valueOf_48 rfl rfl ?_
    exact G_iret cx rfl dX0_valueOf_49 trivial
  refine G_case (fun w5 => ?_) (fun w5 => ?_)
  · refine G_tswIn (t := 50) (off := 49) cx dX0_valueOf_1 w5 (by decide) (by decide) (by decide) (by decide) ?_
    refine G_aload_n (q := 51) cx dX0_valueOf_50 rfl rfl ?_
    refine G_geti (q := 54) cx dX0_valueOf_51 rfl cf_3 fl_RX0_41 (Nat.le_of_ble_eq_true rfl) rfl h_a1 ?_
    exact G_iret cx rfl dX0_valueOf_54 trivial
  have hz1_0 := lv_neT w1 (show (0 : Int32).toInt = 0 by decide)
  have hz1_1 := lv_neT w2 (show (1 : Int32).toInt = 1 by decide)
  have hz1_2 := lv_neT w3 (show (2 : Int32).toInt = 2 by decide)
  have hz1_3 := lv_neT w4 (show (3 : Int32).toInt = 3 by decide)
  have hz1_4 := lv_neT w5 (show (4 : Int32).toInt = 4 by decide)
  refine G_tswOut (t := 55) cx dX0_valueOf_1 (by omega) (by decide) ?_
  refine G_aload_n (q := 56) cx dX0_valueOf_55 rfl rfl ?_
  refine G_geti (q := 59) cx dX0_valueOf_56 rfl cf_3 fl_RX0_44 (Nat.le_of_ble_eq_true rfl) rfl h_a1 ?_
  refine G_bipush (q := 61) (v := (10 : Int32)) cx dX0_valueOf_59 rfl (by decide) ?_
  refine G_idiv (q := 62) cx dX0_valueOf_61 rfl (by decide) ?_
  exact G_iret cx rfl dX0_valueOf_62 trivial
def F_X0_tested (S : St) (a0 : Int32) (a1 : Int32) : Option (Int32 × St) :=
  if ((a0 / (100 : Int32)) - (a0 / (100 : Int32)) / (10 : Int32) * (10 : Int32)) = 0 then (if (a0 - a0 / (100 : Int32) * (100 : Int32)) ≤ a1 then (some ((0 : Int32), S))
  else (some ((1 : Int32), S)))
  else (if ((a0 / (100 : Int32)) - (a0 / (100 : Int32)) / (10 : Int32) * (10 : Int32)) = 1 then (if a1 = (a0 - a0 / (100 : Int32) * (100 : Int32)) then (some ((1 : Int32), S))
  else (some ((0 : Int32), S)))
  else (if a1 ≤ (a0 - a0 / (100 : Int32) * (100 : Int32)) then (some ((0 : Int32), S))
  else (some ((1 : Int32), S))))
set_option maxRecDepth 10000 in
theorem c_X0_tested (l : Launch) {D : va_G} {cy : Nat → ClassId} {ad : Nat → Nat → Nat} {k : Nat} (hJ : wJ ad (nX k)) (S : St) (a0 : Int32) (a1 : Int32) : CT l yX0_tested cX0_tested 3 (some .int) 0 D cy ad (nX k) toI okT [.int a0, .int a1] S (F_X0_tested S a0 a1) := by
  refine CT.of RX0 (by decide) rfl hJ (Nat.le_of_ble_eq_true rfl) rfl ?_
  intro p e s m below meth c cx
  unfold F_X0_tested
  refine G_iload_n (q := 1) cx dX0_tested_0 rfl rfl ?_
  refine G_bipush (q := 3) (v := (100 : Int32)) cx dX0_tested_1 rfl (by decide) ?_
  refine G_irem (q := 4) cx dX0_tested_3 rfl (by decide) ?_
  refine G_istore_n (q := 5) (ls' := [(2, .int (a0 - a0 / (100 : Int32) * (100 : Int32))), (0, .int a0), (1, .int a1)]) cx dX0_tested_4 rfl rfl (Nat.le_of_ble_eq_true rfl) rfl ?_
  refine G_iload_n (q := 6) cx dX0_tested_5 rfl rfl ?_
  refine G_bipush (q := 8) (v := (100 : Int32)) cx dX0_tested_6 rfl (by decide) ?_
  refine G_idiv (q := 9) cx dX0_tested_8 rfl (by decide) ?_
  refine G_bipush (q := 11) (v := (10 : Int32)) cx dX0_tested_9 rfl (by decide) ?_
  refine G_irem (q := 12) cx dX0_tested_11 rfl (by decide) ?_
  refine G_case (fun w1 => ?_) (fun w1 => ?_)
  · refine G_lsw (t := 40) (off := 28) cx dX0_tested_12 (by decide) (by rw [w1] <;> decide) (by decide) ?_
    refine G_iload_n (q := 41) cx dX0_tested_40 rfl rfl ?_
    refine G_iload_n (q := 42) cx dX0_tested_41 rfl rfl ?_
    refine G_icmp_ge (q := 45) (t := 49) cx dX0_tested_42 rfl (by decide) (fun c2 => ?_) (fun c2 => ?_)
    · refine G_iconst (q := 50) (v := (0 : Int32)) cx dX0_tested_49 rfl (by decide) ?_
      exact G_iret cx rfl dX0_tested_50 trivial
    · refine G_iconst (q := 46) (v := (1 : Int32)) cx dX0_tested_45 rfl (by decide) ?_
      refine G_goto (t := 50) cx dX0_tested_46 (by decide) ?_
      exact G_iret cx rfl dX0_tested_50 trivial
  refine G_case (fun w3 => ?_) (fun w3 => ?_)
  · refine G_lsw (t := 51) (off := 39) cx dX0_tested_12 (by decide) (by rw [w3] <;> decide) (by decide) ?_
    refine G_iload_n (q := 52) cx dX0_tested_51 rfl rfl ?_
    refine G_iload_n (q := 53) cx dX0_tested_52 rfl rfl ?_
    refine G_icmp_ne (q := 56) (t := 60) cx dX0_tested_53 rfl (by decide) (fun c4 => ?_) (fun c4 => ?_)
    · refine G_iconst (q := 61) (v := (0 : Int32)) cx dX0_tested_60 rfl (by decide) ?_
      exact G_iret cx rfl dX0_tested_61 trivial
    · refine G_iconst (q := 57) (v := (1 : Int32)) cx dX0_tested_56 rfl (by decide) ?_
      refine G_goto (t := 61) cx dX0_tested_57 (by decide) ?_
      exact G_iret cx rfl dX0_tested_61 trivial
  refine G_lsw (t := 62) (off := 50) cx dX0_tested_12 (by decide) (by show Op.lookupswitch.offset [(0, 28), (1, 39)] 50 _ = _; rw [lv_osw w1 (show (0 : Int32).toInt = 0 by decide)]; rw [lv_osw w3 (show (1 : Int32).toInt = 1 by decide)] <;> rfl) (by decide) ?_
  refine G_iload_n (q := 63) cx dX0_tested_62 rfl rfl ?_
  refine G_iload_n (q := 64) cx dX0_tested_63 rfl rfl ?_
  refine G_icmp_le (q := 67) (t := 71) cx dX0_tested_64 rfl (by decide) (fun c5 => ?_) (fun c5 => ?_)
  · refine G_iconst (q := 72) (v := (0 : Int32)) cx dX0_tested_71 rfl (by decide) ?_
    exact G_iret cx rfl dX0_tested_72 trivial
  · refine G_iconst (q := 68) (v := (1 : Int32)) cx dX0_tested_67 rfl (by decide) ?_
    refine G_goto (t := 72) cx dX0_tested_68 (by decide) ?_
    exact G_iret cx rfl dX0_tested_72 trivial
def L_X0_more_9 (i0 : Nat) (a1 : Nat) (a2 : Int32) (a3 : Int32) (K_1 : Int32 → Int32 → Int32 → St → Option (Int32 × St)) : Nat → Int32 → Int32 → Int32 → St → Option (Int32 × St)
  | 0, _, _, _, _ => none
  | n + 1, x4_1, x5_1, x6_1, S_1 =>
    if (gI S_1 0 i0 1) ≤ x6_1 then (K_1 x4_1 x5_1 x6_1 S_1)
    else (if 0 ≤ x6_1 ∧ x6_1.toNatClampNeg < 100 then (if ((gI S_1 16 i0 x6_1.toNatClampNeg) / (1000 : Int32)) = 6 then (L_X0_more_9 i0 a1 a2 a3 K_1 n (x4_1 ^^^ (1 : Int32)) x5_1 (x6_1 + 1) S_1)
    else (if ((gI S_1 16 i0 x6_1.toNatClampNeg) / (1000 : Int32)) = 7 then (L_X0_more_9 i0 a1 a2 a3 K_1 n ((x4_1 >>> ((1 : Int32) &&& 31)) &&& ((x4_1 &&& (1 : Int32)) ||| (-2 : Int32))) x5_1 (x6_1 + 1) S_1)
    else (if ((gI S_1 16 i0 x6_1.toNatClampNeg) / (1000 : Int32)) = 8 then (L_X0_more_9 i0 a1 a2 a3 K_1 n ((x4_1 >>> ((1 : Int32) &&& 31)) ||| (x4_1 &&& (1 : Int32))) x5_1 (x6_1 + 1) S_1)
    else (if ((gI S_1 16 i0 x6_1.toNatClampNeg) / (1000 : Int32)) = 9 then (if 0 ≤ x6_1 ∧ x6_1.toNatClampNeg < 100 then (L_X0_more_9 i0 a1 a2 a3 K_1 n (x4_1 >>> ((1 : Int32) &&& 31)) (x5_1 + ((x4_1 &&& (1 : Int32)) * ((gI S_1 16 i0 x6_1.toNatClampNeg) - (gI S_1 16 i0 x6_1.toNatClampNeg) / (100 : Int32) * (100 : Int32)))) (x6_1 + 1) S_1)
    else none)
    else (if ((gI S_1 16 i0 x6_1.toNatClampNeg) / (1000 : Int32)) = 10 then (if 0 ≤ x6_1 ∧ x6_1.toNatClampNeg < 100 then (L_X0_more_9 i0 a1 a2 a3 K_1 n (x4_1 >>> ((1 : Int32) &&& 31)) (x5_1 - ((x4_1 &&& (1 : Int32)) * ((gI S_1 16 i0 x6_1.toNatClampNeg) - (gI S_1 16 i0 x6_1.toNatClampNeg) / (100 : Int32) * (100 : Int32)))) (x6_1 + 1) S_1)
    else none)
    else (if 0 ≤ x6_1 ∧ x6_1.toNatClampNeg < 100 then (bnd (F_X0_valueOf S_1 ((gI S_1 16 i0 x6_1.toNatClampNeg) / (1000 : Int32)) a1 a2 a3) (fun r16 S17 =>
    bnd (F_X0_tested S17 (gI S_1 16 i0 x6_1.toNatClampNeg) r16) (fun r20 S21 =>
    L_X0_more_9 i0 a1 a2 a3 K_1 n ((x4_1 <<< ((1 : Int32) &&& 31)) ||| r20) x5_1 (x6_1 + 1) S21)))
    else none))))))
    else none)
def F_X0_more (S : St) (i0 : Nat) (a1 : Nat) (a2 : Int32) (a3 : Int32) : Option (Int32 × St) :=
  L_X0_more_9 i0 a1 a2 a3 
  (fun y4_1 y5_1 y6_1 T_1 => some (y5_1, T_1)) 1000 (0 : Int32) (0 : Int32) (0 : Int32) S
set_option maxRecDepth 10000 in
theorem c_X0_more (l : Launch) {D : va_G} {cy : Nat → ClassId} {ad : Nat → Nat → Nat} {k : Nat} (hJ : wJ ad (nX k)) (S : St) (i0 : Nat) (a1 : Nat) (a2 : Int32) (a3 : Int32) (h_i0 : i0 < 1 + k) (h_a1 : a1 < 12) : CT l yX0_more cX0_more 9 (some .int) 1 D cy ad (nX k) toI okT [.ref (ad 0 i0), .ref (ad 3 a1), .int a2, .int a3] S (F_X0_more S i0 a1 a2 a3) := by
  refine CT.of RX0 (by decide) rfl hJ (Nat.le_of_ble_eq_true rfl) rfl ?_
  intro p e s m below meth c cx
  unfold F_X0_more
  refine G_iconst (q := 1) (v := (0 : Int32)) cx dX0_more_0 rfl (by decide) ?_
  refine G_istore (q := 3) (ls' := [(4, .int (0 : Int32)), (0, .ref (ad 0 i0)), (1, .ref (ad 3 a1)), (2, .int a2), (3, .int a3)]) cx dX0_more_1 rfl (Nat.le_of_ble_eq_true rfl) rfl ?_
  refine G_iconst (q := 4) (v := (0 : Int32)) cx dX0_more_3 rfl (by decide) ?_
  refine G_istore (q := 6) (ls' := [(5, .int (0 : Int32)), (4, .int (0 : Int32)), (0, .ref (ad 0 i0)), (1, .ref (ad 3 a1)), (2, .int a2), (3, .int a3)]) cx dX0_more_4 rfl (Nat.le_of_ble_eq_true rfl) rfl ?_
  refine G_iconst (q := 7) (v := (0 : Int32)) cx dX0_more_6 rfl (by decide) ?_
  refine G_istore (q := 9) (ls' := [(6, .int (0 : Int32)), (5, .int (0 : Int32)), (4, .int (0 : Int32)), (0, .ref (ad 0 i0)), (1, .ref (ad 3 a1)), (2, .int a2), (3, .int a3)]) cx dX0_more_7 rfl (Nat.le_of_ble_eq_true rfl) rfl ?_
  have lp_1 : ∀ (K_1 : Int32 → Int32 → Int32 → St → Option (Int32 × St)) (hK_1 : ∀ (y4_1 : Int32) (y5_1 : Int32) (y6_1 : Int32) (T_1 : St), TG p l e 1 s m ([.ref (ad 0 i0), .ref (ad 3 a1), .int a2, .int a3] : List Value).toArray below meth c D cy ad (nX k) toI okT T_1 193 [(4, .int y4_1), (5, .int y5_1), (6, .int y6_1), (0, .ref (ad 0 i0)), (1, .ref (ad 3 a1)), (2, .int a2), (3, .int a3)] [] (K_1 y4_1 y5_1 y6_1 T_1)), ∀ (n_1 : Nat) (x4_1 : Int32) (x5_1 : Int32) (x6_1 : Int32) (S_1 : St), TG p l e 1 s m ([.ref (ad 0 i0), .ref (ad 3 a1), .int a2, .int a3] : List Value).toArray below meth c D cy ad (nX k) toI okT S_1 9 [(4, .int x4_1), (5, .int x5_1), (6, .int x6_1), (0, .ref (ad 0 i0)), (1, .ref (ad 3 a1)), (2, .int a2), (3, .int a3)] [] (L_X0_more_9 i0 a1 a2 a3 K_1 n_1 x4_1 x5_1 x6_1 S_1) := by
    intro K_1 hK_1 n_1
    induction n_1 with
    | zero => intros; exact G_none
    | succ n_1 ih_1 =>
      intro x4_1 x5_1 x6_1 S_1
      rw [L_X0_more_9.eq_2]
      refine G_iload (q := 11) cx dX0_more_9 rfl rfl ?_
      refine G_aload_n (q := 12) cx dX0_more_11 rfl rfl ?_
      refine G_geti (q := 15) cx dX0_more_12 rfl cf_0 fl_RX0_15 (Nat.le_of_ble_eq_true rfl) rfl h_i0 ?_
      refine G_icmp_ge (q := 18) (t := 193) cx dX0_more_15 rfl (by decide) (fun c2 => ?_) (fun c2 => ?_)
      · exact G_loc [0, 1, 2, 3, 4, 5, 6] rfl (hK_1 x4_1 x5_1 x6_1 S_1)
      refine G_aload_n (q := 19) cx dX0_more_18 rfl rfl ?_
      refine G_getr (q := 22) (g := 16) (i' := i0) cx dX0_more_19 rfl cf_0 fl_RX0_9 (Nat.le_of_ble_eq_true rfl) rfl rfl h_i0 ?_
      refine G_iload (q := 24) cx dX0_more_22 rfl rfl ?_
      refine G_iald (q := 25) cx dX0_more_24 rfl (by decide) rfl rfl h_i0 (fun g3 g4 => ?_)
      refine G_sipush (q := 28) (v := (1000 : Int32)) cx dX0_more_25 rfl (by decide) ?_
      refine G_idiv (q := 29) cx dX0_more_28 rfl (by decide) ?_
      refine G_istore (q := 31) (ls' := [(7, .int ((gI S_1 16 i0 x6_1.toNatClampNeg) / (1000 : Int32))), (4, .int x4_1), (5, .int x5_1), (6, .int x6_1), (0, .ref (ad 0 i0)), (1, .ref (ad 3 a1)), (2, .int a2), (3, .int a3)]) cx dX0_more_29 rfl (Nat.le_of_ble_eq_true rfl) rfl ?_
      refine G_iload (q := 33) cx dX0_more_31 rfl rfl ?_
      refine G_iconst (q := 34) (v := (1 : Int32)) cx dX0_more_33 rfl (by decide) ?_
      refine G_iand (q := 35) cx dX0_more_34 rfl ?_
      refine G_istore (q := 37) (ls' := [(8, .int (x4_1 &&& (1 : Int32))), (7, .int ((gI S_1 16 i0 x6_1.toNatClampNeg) / (1000 : Int32))), (4, .int x4_1), (5, .int x5_1), (6, .int x6_1), (0, .ref (ad 0 i0)), (1, .ref (ad 3 a1)), (2, .int a2), (3, .int a3)]) cx dX0_more_35 rfl (Nat.le_of_ble_eq_true rfl) rfl ?_
      refine G_iload (q := 39) cx dX0_more_37 rfl rfl ?_
      refine G_case (fun w5 => ?_) (fun w5 => ?_)
      · refine G_tswIn (t := 72) (off := 33) cx dX0_more_39 w5 (by decide) (by decide) (by decide) (by decide) ?_
        refine G_iload (q := 74) cx dX0_more_72 rfl rfl ?_
        refine G_iconst (q := 75) (v := (1 : Int32)) cx dX0_more_74 rfl (by decide) ?_
        refine G_ixor (q := 76) cx dX0_more_75 rfl ?_
        refine G_istore (q := 78) (ls' := [(4, .int (x4_1 ^^^ (1 : Int32))), (8, .int (x4_1 &&& (1 : Int32))), (7, .int ((gI S_1 16 i0 x6_1.toNatClampNeg) / (1000 : Int32))), (5, .int x5_1), (6, .int x6_1), (0, .ref (ad 0 i0)), (1, .ref (ad 3 a1)), (2, .int a2), (3, .int a3)]) cx dX0_more_76 rfl (Nat.le_of_ble_eq_true rfl) rfl ?_
        refine G_goto (t := 187) cx dX0_more_78 (by decide) ?_
        refine G_iinc (q := 190) (j := 4) (v := x6_1 + 1) (ls' := [(6, .int (x6_1 + 1)), (4, .int (x4_1 ^^^ (1 : Int32))), (8, .int (x4_1 &&& (1 : Int32))), (7, .int ((gI S_1 16 i0 x6_1.toNatClampNeg) / (1000 : Int32))), (5, .int x5_1), (0, .ref (ad 0 i0)), (1, .ref (ad 3 a1)), (2, .int a2), (3, .int a3)]) cx dX0_more_187 rfl rfl rfl (Nat.le_of_ble_eq_true rfl) rfl ?_
        refine G_goto (t := 9) cx dX0_more_190 (by decide) ?_
        exact G_loc [1, 4, 0, 5, 6, 7, 8] rfl (ih_1 (x4_1 ^^^ (1 : Int32)) x5_1 (x6_1 + 1) S_1)
      refine G_case (fun w6 => ?_) (fun w6 => ?_)
      · refine G_tswIn (t := 81) (off := 42) cx dX0_more_39 w6 (by decide) (by decide) (by decide) (by decide) ?_
        refine G_iload (q := 83) cx dX0_more_81 rfl rfl ?_
        refine G_iconst (q := 84) (v := (1 : Int32)) cx dX0_more_83 rfl (by decide) ?_
        refine G_ishr (q := 85) cx dX0_more_84 rfl ?_
        refine G_iload (q := 87) cx dX0_more_85 rfl rfl ?_
        refine G_bipush (q := 89) (v := (-2 : Int32)) cx dX0_more_87 rfl (by decide) ?_
        refine G_ior (q := 90) cx dX0_more_89 rfl ?_
        refine G_iand (q := 91) cx dX0_more_90 rfl ?_
        refine G_istore (q := 93) (ls' := [(4, .int ((x4_1 >>> ((1 : Int32) &&& 31)) &&& ((x4_1 &&& (1 : Int32)) ||| (-2 : Int32)))), (8, .int (x4_1 &&& (1 : Int32))), (7, .int ((gI S_1 16 i0 x6_1.toNatClampNeg) / (1000 : Int32))), (5, .int x5_1), (6, .int x6_1), (0, .ref (ad 0 i0)), (1, .ref (ad 3 a1)), (2, .int a2), (3, .int a3)]) cx dX0_more_91 rfl (Nat.le_of_ble_eq_true rfl) rfl ?_
        refine G_goto (t := 187) cx dX0_more_93 (by decide) ?_
        refine G_iinc (q := 190) (j := 4) (v := x6_1 + 1) (ls' := [(6, .int (x6_1 + 1)), (4, .int ((x4_1 >>> ((1 : Int32) &&& 31)) &&& ((x4_1 &&& (1 : Int32)) ||| (-2 : Int32)))), (8, .int (x4_1 &&& (1 : Int32))), (7, .int ((gI S_1 16 i0 x6_1.toNatClampNeg) / (1000 : Int32))), (5, .int x5_1), (0, .ref (ad 0 i0)), (1, .ref (ad 3 a1)), (2, .int a2), (3, .int a3)]) cx dX0_more_187 rfl rfl rfl (Nat.le_of_ble_eq_true rfl) rfl ?_
        refine G_goto (t := 9) cx dX0_more_190 (by decide) ?_
        exact G_loc [1, 4, 0, 5, 6, 7, 8] rfl (ih_1 ((x4_1 >>> ((1 : Int32) &&& 31)) &&& ((x4_1 &&& (1 : Int32)) ||| (-2 : Int32))) x5_1 (x6_1 + 1) S_1)
      refine G_case (fun w7 => ?_) (fun w7 => ?_)
      · refine G_tswIn (t := 96) (off := 57) cx dX0_more_39 w7 (by decide) (by decide) (by decide) (by decide) ?_
        refine G_iload (q := 98) cx dX0_more_96 rfl rfl ?_
        refine G_iconst (q := 99) (v := (1 : Int32)) cx dX0_more_98 rfl (by decide) ?_
        refine G_ishr (q := 100) cx dX0_more_99 rfl ?_
        refine G_iload (q := 102) cx dX0_more_100 rfl rfl ?_
        refine G_ior (q := 103) cx dX0_more_102 rfl ?_
        refine G_istore (q := 105) (ls' := [(4, .int ((x4_1 >>> ((1 : Int32) &&& 31)) ||| (x4_1 &&& (1 : Int32)))), (8, .int (x4_1 &&& (1 : Int32))), (7, .int ((gI S_1 16 i0 x6_1.toNatClampNeg) / (1000 : Int32))), (5, .int x5_1), (6, .int x6_1), (0, .ref (ad 0 i0)), (1, .ref (ad 3 a1)), (2, .int a2), (3, .int a3)]) cx dX0_more_103 rfl (Nat.le_of_ble_eq_true rfl) rfl ?_
        refine G_goto (t := 187) cx dX0_more_105 (by decide) ?_
        refine G_iinc (q := 190) (j := 4) (v := x6_1 + 1) (ls' := [(6, .int (x6_1 + 1)), (4, .int ((x4_1 >>> ((1 : Int32) &&& 31)) ||| (x4_1 &&& (1 : Int32)))), (8, .int (x4_1 &&& (1 : Int32))), (7, .int ((gI S_1 16 i0 x6_1.toNatClampNeg) / (1000 : Int32))), (5, .int x5_1), (0, .ref (ad 0 i0)), (1, .ref (ad 3 a1)), (2, .int a2), (3, .int a3)]) cx dX0_more_187 rfl rfl rfl (Nat.le_of_ble_eq_true rfl) rfl ?_
        refine G_goto (t := 9) cx dX0_more_190 (by decide) ?_
        exact G_loc [1, 4, 0, 5, 6, 7, 8] rfl (ih_1 ((x4_1 >>> ((1 : Int32) &&& 31)) ||| (x4_1 &&& (1 : Int32))) x5_1 (x6_1 + 1) S_1)
      refine G_case (fun w8 => ?_) (fun w8 => ?_)
      · refine G_tswIn (t := 108) (off := 69) cx dX0_more_39 w8 (by decide) (by decide) (by decide) (by decide) ?_
        refine G_iload (q := 110) cx dX0_more_108 rfl rfl ?_
        refine G_iload (q := 112) cx dX0_more_110 rfl rfl ?_
        refine G_aload_n (q := 113) cx dX0_more_112 rfl rfl ?_
        refine G_getr (q := 116) (g := 16) (i' := i0) cx dX0_more_113 rfl cf_0 fl_RX0_9 (Nat.le_of_ble_eq_true rfl) rfl rfl h_i0 ?_
        refine G_iload (q := 118) cx dX0_more_116 rfl rfl ?_
        refine G_iald (q := 119) cx dX0_more_118 rfl (by decide) rfl rfl h_i0 (fun g9 g10 => ?_)
        refine G_bipush (q := 121) (v := (100 : Int32)) cx dX0_more_119 rfl (by decide) ?_
        refine G_irem (q := 122) cx dX0_more_121 rfl (by decide) ?_
        refine G_imul (q := 123) cx dX0_more_122 rfl ?_
        refine G_iadd (q := 124) cx dX0_more_123 rfl ?_
        refine G_istore (q := 126) (ls' := [(5, .int (x5_1 + ((x4_1 &&& (1 : Int32)) * ((gI S_1 16 i0 x6_1.toNatClampNeg) - (gI S_1 16 i0 x6_1.toNatClampNeg) / (100 : Int32) * (100 : Int32))))), (8, .int (x4_1 &&& (1 : Int32))), (7, .int ((gI S_1 16 i0 x6_1.toNatClampNeg) / (1000 : Int32))), (4, .int x4_1), (6, .int x6_1), (0, .ref (ad 0 i0)), (1, .ref (ad 3 a1)), (2, .int a2), (3, .int a3)]) cx dX0_more_124 rfl (Nat.le_of_ble_eq_true rfl) rfl ?_
        refine G_iload (q := 128) cx dX0_more_126 rfl rfl ?_
        refine G_iconst (q := 129) (v := (1 : Int32)) cx dX0_more_128 rfl (by decide) ?_
        refine G_ishr (q := 130) cx dX0_more_129 rfl ?_
        refine G_istore (q := 132) (ls' := [(4, .int (x4_1 >>> ((1 : Int32) &&& 31))), (5, .int (x5_1 + ((x4_1 &&& (1 : Int32)) * ((gI S_1 16 i0 x6_1.toNatClampNeg) - (gI S_1 16 i0 x6_1.toNatClampNeg) / (100 : Int32) * (100 : Int32))))), (8, .int (x4_1 &&& (1 : Int32))), (7, .int ((gI S_1 16 i0 x6_1.toNatClampNeg) / (1000 : Int32))), (6, .int x6_1), (0, .ref (ad 0 i0)), (1, .ref (ad 3 a1)), (2, .int a2), (3, .int a3)]) cx dX0_more_130 rfl (Nat.le_of_ble_eq_true rfl) rfl ?_
        refine G_goto (t := 187) cx dX0_more_132 (by decide) ?_
        refine G_iinc (q := 190) (j := 4) (v := x6_1 + 1) (ls' := [(6, .int (x6_1 + 1)), (4, .int (x4_1 >>> ((1 : Int32) &&& 31))), (5, .int (x5_1 + ((x4_1 &&& (1 : Int32)) * ((gI S_1 16 i0 x6_1.toNatClampNeg) - (gI S_1 16 i0 x6_1.toNatClampNeg) / (100 : Int32) * (100 : Int32))))), (8, .int (x4_1 &&& (1 : Int32))), (7, .int ((gI S_1 16 i0 x6_1.toNatClampNeg) / (1000 : Int32))), (0, .ref (ad 0 i0)), (1, .ref (ad 3 a1)), (2, .int a2), (3, .int a3)]) cx dX0_more_187 rfl rfl rfl (Nat.le_of_ble_eq_true rfl) rfl ?_
        refine G_goto (t := 9) cx dX0_more_190 (by decide) ?_
        exact G_loc [1, 2, 0, 5, 6, 7, 8] rfl (ih_1 (x4_1 >>> ((1 : Int32) &&& 31)) (x5_1 + ((x4_1 &&& (1 : Int32)) * ((gI S_1 16 i0 x6_1.toNatClampNeg) - (gI S_1 16 i0 x6_1.toNatClampNeg) / (100 : Int32) * (100 : Int32)))) (x6_1 + 1) S_1)
      refine G_case (fun w11 => ?_) (fun w11 => ?_)
      · refine G_tswIn (t := 135) (off := 96) cx dX0_more_39 w11 (by decide) (by decide) (by decide) (by decide) ?_
        refine G_iload (q := 137) cx dX0_more_135 rfl rfl ?_
        refine G_iload (q := 139) cx dX0_more_137 rfl rfl ?_
        refine G_aload_n (q := 140) cx dX0_more_139 rfl rfl ?_
        refine G_getr (q := 143) (g := 16) (i' := i0) cx dX0_more_140 rfl cf_0 fl_RX0_9 (Nat.le_of_ble_eq_true rfl) rfl rfl h_i0 ?_
        refine G_iload (q := 145) cx dX0_more_143 rfl rfl ?_
        refine G_iald (q := 146) cx dX0_more_145 rfl (by decide) rfl rfl h_i0 (fun g12 g13 => ?_)
        refine G_bipush (q := 148) (v := (100 : Int32)) cx dX0_more_146 rfl (by decide) ?_
        refine G_irem (q := 149) cx dX0_more_148 rfl (by decide) ?_
        refine G_imul (q := 150) cx dX0_more_149 rfl ?_
        refine G_isub (q := 151) cx dX0_more_150 rfl ?_
        refine G_istore (q := 153) (ls' := [(5, .int (x5_1 - ((x4_1 &&& (1 : Int32)) * ((gI S_1 16 i0 x6_1.toNatClampNeg) - (gI S_1 16 i0 x6_1.toNatClampNeg) / (100 : Int32) * (100 : Int32))))), (8, .int (x4_1 &&& (1 : Int32))), (7, .int ((gI S_1 16 i0 x6_1.toNatClampNeg) / (1000 : Int32))), (4, .int x4_1), (6, .int x6_1), (0, .ref (ad 0 i0)), (1, .ref (ad 3 a1)), (2, .int a2), (3, .int a3)]) cx dX0_more_151 rfl (Nat.le_of_ble_eq_true rfl) rfl ?_
        refine G_iload (q := 155) cx dX0_more_153 rfl rfl ?_
        refine G_iconst (q := 156) (v := (1 : Int32)) cx dX0_more_155 rfl (by decide) ?_
        refine G_ishr (q := 157) cx dX0_more_156 rfl ?_
        refine G_istore (q := 159) (ls' := [(4, .int (x4_1 >>> ((1 : Int32) &&& 31))), (5, .int (x5_1 - ((x4_1 &&& (1 : Int32)) * ((gI S_1 16 i0 x6_1.toNatClampNeg) - (gI S_1 16 i0 x6_1.toNatClampNeg) / (100 : Int32) * (100 : Int32))))), (8, .int (x4_1 &&& (1 : Int32))), (7, .int ((gI S_1 16 i0 x6_1.toNatClampNeg) / (1000 : Int32))), (6, .int x6_1), (0, .ref (ad 0 i0)), (1, .ref (ad 3 a1)), (2, .int a2), (3, .int a3)]) cx dX0_more_157 rfl (Nat.le_of_ble_eq_true rfl) rfl ?_
        refine G_goto (t := 187) cx dX0_more_159 (by decide) ?_
        refine G_iinc (q := 190) (j := 4) (v := x6_1 + 1) (ls' := [(6, .int (x6_1 + 1)), (4, .int (x4_1 >>> ((1 : Int32) &&& 31))), (5, .int (x5_1 - ((x4_1 &&& (1 : Int32)) * ((gI S_1 16 i0 x6_1.toNatClampNeg) - (gI S_1 16 i0 x6_1.toNatClampNeg) / (100 : Int32) * (100 : Int32))))), (8, .int (x4_1 &&& (1 : Int32))), (7, .int ((gI S_1 16 i0 x6_1.toNatClampNeg) / (1000 : Int32))), (0, .ref (ad 0 i0)), (1, .ref (ad 3 a1)), (2, .int a2), (3, .int a3)]) cx dX0_more_187 rfl rfl rfl (Nat.le_of_ble_eq_true rfl) rfl ?_
        refine G_goto (t := 9) cx dX0_more_190 (by decide) ?_
        exact G_loc [1, 2, 0, 5, 6, 7, 8] rfl (ih_1 (x4_1 >>> ((1 : Int32) &&& 31)) (x5_1 - ((x4_1 &&& (1 : Int32)) * ((gI S_1 16 i0 x6_1.toNatClampNeg) - (gI S_1 16 i0 x6_1.toNatClampNeg) / (100 : Int32) * (100 : Int32)))) (x6_1 + 1) S_1)
      have hz39_0 := lv_neT w5 (show (6 : Int32).toInt = 6 by decide)
      have hz39_1 := lv_neT w6 (show (7 : Int32).toInt = 7 by decide)
      have hz39_2 := lv_neT w7 (show (8 : Int32).toInt = 8 by decide)
      have hz39_3 := lv_neT w8 (show (9 : Int32).toInt = 9 by decide)
      have hz39_4 := lv_neT w11 (show (10 : Int32).toInt = 10 by decide)
      refine G_tswOut (t := 162) cx dX0_more_39 (by omega) (by decide) ?_
      refine G_iload (q := 164) cx dX0_more_162 rfl rfl ?_
      refine G_iconst (q := 165) (v := (1 : Int32)) cx dX0_more_164 rfl (by decide) ?_
      refine G_ishl (q := 166) cx dX0_more_165 rfl ?_
      refine G_aload_n (q := 167) cx dX0_more_166 rfl rfl ?_
      refine G_getr (q := 170) (g := 16) (i' := i0) cx dX0_more_167 rfl cf_0 fl_RX0_9 (Nat.le_of_ble_eq_true rfl) rfl rfl h_i0 ?_
      refine G_iload (q := 172) cx dX0_more_170 rfl rfl ?_
      refine G_iald (q := 173) cx dX0_more_172 rfl (by decide) rfl rfl h_i0 (fun g14 g15 => ?_)
      refine G_iload (q := 175) cx dX0_more_173 rfl rfl ?_
      refine G_aload_n (q := 176) cx dX0_more_175 rfl rfl ?_
      refine G_iload_n (q := 177) cx dX0_more_176 rfl rfl ?_
      refine G_iload_n (q := 178) cx dX0_more_177 rfl rfl ?_
      refine G_callS (q := 181) (d' := 0) (As := [.int ((gI S_1 16 i0 x6_1.toNatClampNeg) / (1000 : Int32)), .ref (ad 3 a1), .int a2, .int a3]) (rest := [.int (gI S_1 16 i0 x6_1.toNatClampNeg), .int (x4_1 <<< ((1 : Int32) &&& 31))]) (stk := fun r16 => [.int r16, .int (gI S_1 16 i0 x6_1.toNatClampNeg), .int (x4_1 <<< ((1 : Int32) &&& 31))]) cx dX0_more_178 rfl ml_RX0_25 rfl rfl (Nat.le_of_ble_eq_true rfl) (Nat.le_of_ble_eq_true rfl) (Nat.le_of_ble_eq_true rfl) (c_X0_valueOf l hJ _ ((gI S_1 16 i0 x6_1.toNatClampNeg) / (1000 : Int32)) a1 a2 a3 h_a1) (fun _ => rfl) (fun r16 S17 h18 o19 => ?_)
      refine G_callS (q := 184) (d' := 0) (As := [.int (gI S_1 16 i0 x6_1.toNatClampNeg), .int r16]) (rest := [.int (x4_1 <<< ((1 : Int32) &&& 31))]) (stk := fun r20 => [.int r20, .int (x4_1 <<< ((1 : Int32) &&& 31))]) cx dX0_more_181 rfl ml_RX0_29 rfl rfl (Nat.le_of_ble_eq_true rfl) (Nat.le_of_ble_eq_true rfl) (Nat.le_of_ble_eq_true rfl) (c_X0_tested l hJ _ (gI S_1 16 i0 x6_1.toNatClampNeg) r16) (fun _ => rfl) (fun r20 S21 h22 o23 => ?_)
      refine G_ior (q := 185) cx dX0_more_184 rfl ?_
      refine G_istore (q := 187) (ls' := [(4, .int ((x4_1 <<< ((1 : Int32) &&& 31)) ||| r20)), (8, .int (x4_1 &&& (1 : Int32))), (7, .int ((gI S_1 16 i0 x6_1.toNatClampNeg) / (1000 : Int32))), (5, .int x5_1), (6, .int x6_1), (0, .ref (ad 0 i0)), (1, .ref (ad 3 a1)), (2, .int a2), (3, .int a3)]) cx dX0_more_185 rfl (Nat.le_of_ble_eq_true rfl) rfl ?_
      refine G_iinc (q := 190) (j := 4) (v := x6_1 + 1) (ls' := [(6, .int (x6_1 + 1)), (4, .int ((x4_1 <<< ((1 : Int32) &&& 31)) ||| r20)), (8, .int (x4_1 &&& (1 : Int32))), (7, .int ((gI S_1 16 i0 x6_1.toNatClampNeg) / (1000 : Int32))), (5, .int x5_1), (0, .ref (ad 0 i0)), (1, .ref (ad 3 a1)), (2, .int a2), (3, .int a3)]) cx dX0_more_187 rfl rfl rfl (Nat.le_of_ble_eq_true rfl) rfl ?_
      refine G_goto (t := 9) cx dX0_more_190 (by decide) ?_
      exact G_loc [1, 4, 0, 5, 6, 7, 8] rfl (ih_1 ((x4_1 <<< ((1 : Int32) &&& 31)) ||| r20) x5_1 (x6_1 + 1) S21)
  refine G_loc [2, 1, 0, 3, 4, 5, 6] rfl (lp_1 _ (fun y4_1 y5_1 y6_1 T_1 => ?_) 1000 (0 : Int32) (0 : Int32) (0 : Int32) S)
  refine G_iload (q := 195) cx dX0_more_193 rfl rfl ?_
  exact G_iret cx rfl dX0_more_195 trivial
def F_X1_wordWith (S : St) (a0 : Int32) : Option (Nat × St) :=
  if a0 = 98 then (some (2, S))
  else (if a0 = 100 then (some (1, S))
  else (if a0 = 117 then (some (0, S))
  else (some (3, S))))
set_option maxRecDepth 10000 in
theorem c_X1_wordWith (l : Launch) {D : va_G} {cy : Nat → ClassId} {ad : Nat → Nat → Nat} {k : Nat} (hJ : wJ ad (nX k)) (S : St) (a0 : Int32) : CT l yX1_wordWith cX1_wordWith 1 (some (.object "java/lang/String")) 0 D cy ad (nX k) (toS ad) ok6 [.int a0] S (F_X1_wordWith S a0) := by
  refine CT.of RX1 (by decide) rfl hJ (Nat.le_of_ble_eq_true rfl) rfl ?_
  intro p e s m below meth c cx
  unfold F_X1_wordWith
  refine G_iload_n (q := 1) cx dX1_wordWith_0 rfl rfl ?_
  refine G_case (fun w1 => ?_) (fun w1 => ?_)
  · refine G_lsw (t := 42) (off := 41) cx dX1_wordWith_1 (by decide) (by rw [w1] <;> decide) (by decide) ?_
    refine G_ldcS2 (q := 44) cx dX1_wordWith_42 rfl ?_
    exact G_aretS cx rfl dX1_wordWith_44 rfl (Nat.le_of_ble_eq_true rfl)
  refine G_case (fun w2 => ?_) (fun w2 => ?_)
  · refine G_lsw (t := 39) (off := 38) cx dX1_wordWith_1 (by decide) (by rw [w2] <;> decide) (by decide) ?_
    refine G_ldcS1 (q := 41) cx dX1_wordWith_39 rfl ?_
    exact G_aretS cx rfl dX1_wordWith_41 rfl (Nat.le_of_ble_eq_true rfl)
  refine G_case (fun w3 => ?_) (fun w3 => ?_)
  · refine G_lsw (t := 36) (off := 35) cx dX1_wordWith_1 (by decide) (by rw [w3] <;> decide) (by decide) ?_
    refine G_ldcS0 (q := 38) cx dX1_wordWith_36 rfl ?_
    exact G_aretS cx rfl dX1_wordWith_38 rfl (Nat.le_of_ble_eq_true rfl)
  · refine G_lsw (t := 45) (off := 44) cx dX1_wordWith_1 (by decide) (by show Op.lookupswitch.offset [(98, 41), (100, 38), (117, 35)] 44 _ = _; rw [lv_osw w1 (show (98 : Int32).toInt = 98 by decide)]; rw [lv_osw w2 (show (100 : Int32).toInt = 100 by decide)]; rw [lv_osw w3 (show (117 : Int32).toInt = 117 by decide)] <;> rfl) (by decide) ?_
    refine G_ldcS3 (q := 47) cx dX1_wordWith_45 rfl ?_
    exact G_aretS cx rfl dX1_wordWith_47 rfl (Nat.le_of_ble_eq_true rfl)
def L_X1_word_2 (a1 : Nat) (K_1 : Int32 → St → Option (Int32 × St)) : Nat → Int32 → St → Option (Int32 × St)
  | 0, _, _ => none
  | n + 1, x2_1, S_1 =>
    bnd (F_J0_length_8abf5 S_1 a1) (fun r2 S3 =>
    if r2 ≤ x2_1 then (K_1 x2_1 S3)
    else (bnd (F_J0_charAt_5068e S3 a1 x2_1) (fun r7 S8 =>
    bnd (F_X1_takes S8 r7) (fun r11 S12 =>
    if r11 = 0 then (some ((0 : Int32), S12))
    else (L_X1_word_2 a1 K_1 n (x2_1 + 1) S12)))))
def F_X1_word (S : St) (a1 : Nat) : Option (Int32 × St) :=
  L_X1_word_2 a1 
  (fun y2_1 T_1 => some ((1 : Int32), T_1)) 1000 (0 : Int32) S
set_option maxRecDepth 10000 in
theorem c_X1_word (l : Launch) {D : va_G} {cy : Nat → ClassId} {ad : Nat → Nat → Nat} {k : Nat} (hJ : wJ ad (nX k)) (S : St) (a1 : Nat) (h_a1 : a1 < 6) : CT l yX1_word cX1_word 3 (some .boolean) 4 D cy ad (nX k) toI okZ [.ref (ad 1 0), .ref (ad 19 a1)] S (F_X1_word S a1) := by
  refine CT.of RX1 (by decide) rfl hJ (Nat.le_of_ble_eq_true rfl) rfl ?_
  intro p e s m below meth c cx
  unfold F_X1_word
  refine G_iconst (q := 1) (v := (0 : Int32)) cx dX1_word_0 rfl (by decide) ?_
  refine G_istore_n (q := 2) (ls' := [(2, .int (0 : Int32)), (0, .ref (ad 1 0)), (1, .ref (ad 19 a1))]) cx dX1_word_1 rfl rfl (Nat.le_of_ble_eq_true rfl) rfl ?_
  have lp_1 : ∀ (K_1 : Int32 → St → Option (Int32 × St)) (hK_1 : ∀ (y2_1 : Int32) (T_1 : St), TG p l e 4 s m ([.ref (ad 1 0), .ref (ad 19 a1)] : List Value).toArray below meth c D cy ad (nX k) toI okZ T_1 30 [(2, .int y2_1), (0, .ref (ad 1 0)), (1, .ref (ad 19 a1))] [] (K_1 y2_1 T_1)), ∀ (n_1 : Nat) (x2_1 : Int32) (S_1 : St), TG p l e 4 s m ([.ref (ad 1 0), .ref (ad 19 a1)] : List Value).toArray below meth c D cy ad (nX k) toI okZ S_1 2 [(2, .int x2_1), (0, .ref (ad 1 0)), (1, .ref (ad 19 a1))] [] (L_X1_word_2 a1 K_1 n_1 x2_1 S_1) := by
    intro K_1 hK_1 n_1
    induction n_1 with
    | zero => intros; exact G_none
    | succ n_1 ih_1 =>
      intro x2_1 S_1
      rw [L_X1_word_2.eq_2]
      refine G_iload_n (q := 3) cx dX1_word_2 rfl rfl ?_
      refine G_aload_n (q := 4) cx dX1_word_3 rfl rfl ?_
      refine G_callVS (q := 7) (d' := 1) (i := a1) (As := []) (rest := [.int x2_1]) (stk := fun r2 => [.int r2, .int x2_1]) cx dX1_word_4 rfl h_a1 ml_RX1_102 rfl rfl (Nat.le_of_ble_eq_true rfl) (Nat.le_of_ble_eq_true rfl) (Nat.le_of_ble_eq_true rfl) (c_J0_length_8abf5 l hJ _ a1 h_a1) (fun _ => rfl) (fun r2 S3 h4 o5 => ?_)
      refine G_icmp_ge (q := 10) (t := 30) cx dX1_word_7 rfl (by decide) (fun c6 => ?_) (fun c6 => ?_)
      · exact G_loc [0, 1, 2] rfl (hK_1 x2_1 S3)
      refine G_aload_n (q := 11) cx dX1_word_10 rfl rfl ?_
      refine G_aload_n (q := 12) cx dX1_word_11 rfl rfl ?_
      refine G_iload_n (q := 13) cx dX1_word_12 rfl rfl ?_
      refine G_callVS (q := 16) (d' := 3) (i := a1) (As := [.int x2_1]) (rest := [.ref (ad 1 0)]) (stk := fun r7 => [.int r7, .ref (ad 1 0)]) cx dX1_word_13 rfl h_a1 ml_RX1_104 rfl rfl (Nat.le_of_ble_eq_true rfl) (Nat.le_of_ble_eq_true rfl) (Nat.le_of_ble_eq_true rfl) (c_J0_charAt_5068e l hJ _ a1 x2_1 h_a1) (fun _ => rfl) (fun r7 S8 h9 o10 => ?_)
      refine G_callV (q := 19) (d' := 1) (f := 1) (i := 0) (As := [.int r7]) (rest := []) (stk := fun r11 => [.int r11]) cx dX1_word_16 rfl cf_1 (Nat.le_of_ble_eq_true rfl) ml_RX1_35 rfl rfl (Nat.le_of_ble_eq_true rfl) (Nat.le_of_ble_eq_true rfl) (Nat.le_of_ble_eq_true rfl) (c_X1_takes l hJ _ r7) (fun _ => rfl) (fun r11 S12 h13 o14 => ?_)
      refine G_if_ne (q := 22) (t := 24) cx dX1_word_19 rfl (by decide) (fun c15 => ?_) (fun c15 => ?_)
      · refine G_iinc (q := 27) (j := 0) (v := x2_1 + 1) (ls' := [(2, .int (x2_1 + 1)), (0, .ref (ad 1 0)), (1, .ref (ad 19 a1))]) cx dX1_word_24 rfl rfl rfl (Nat.le_of_ble_eq_true rfl) rfl ?_
        refine G_goto (t := 2) cx dX1_word_27 (by decide) ?_
        exact G_loc [0, 1, 2] rfl (ih_1 (x2_1 + 1) S12)
      · refine G_iconst (q := 23) (v := (0 : Int32)) cx dX1_word_22 rfl (by decide) ?_
        exact G_zret (ty := .boolean) cx rfl dX1_word_23 rfl rfl
  refine G_loc [0, 1, 2] rfl (lp_1 _ (fun y2_1 T_1 => ?_) 1000 (0 : Int32) S)
  refine G_iconst (q := 31) (v := (1 : Int32)) cx dX1_word_30 rfl (by decide) ?_
  exact G_zret (ty := .boolean) cx rfl dX1_word_31 rfl rfl
def F_X1_clause (S : St) : Option (Int32 × St) :=
  bnd (F_X1_peeked S) (fun r1 S2 =>
  bnd (F_X1_wordWith S2 r1) (fun r5 S6 =>
  bnd (F_X1_word S6 r5) (fun r9 S10 =>
  if r9 = 0 then (some ((0 : Int32), S10))
  else (bnd (F_X1_number S10) (fun r14 S15 =>
  if 0 ≤ r14 then (if r1 = 98 then ((gR S15 1 0 3).elim none
  (fun p20 => some ((1 : Int32), (sI S15 0 p20 2 (if (400 : Int32) < ((10 : Int32) * r14) then (400 : Int32) else ((10 : Int32) * r14))))))
  else (if r1 = 115 then ((gR S15 1 0 3).elim none
  (fun p24 => some ((1 : Int32), (sI S15 0 p24 3 ((10 : Int32) * r14)))))
  else (bnd (F_X1_takes S15 (32 : Int32)) (fun r27 S28 =>
  if r27 = 0 then (some ((0 : Int32), S28))
  else (bnd (F_X1_expression (F_X1_factor 6) S28 (0 : Int32)) (fun r32 S33 =>
  if r32 = 0 then (some ((0 : Int32), S33))
  else ((gR S33 1 0 3).elim (if r1 = (117 : Int32) then none
  else none)
  (fun p37 => if r1 = (117 : Int32) then (bnd (F_X0_addStep S33 p37 (9 : Int32) (0 : Int32) r14) (fun r46 S47 =>
  some ((1 : Int32), S47)))
  else (bnd (F_X0_addStep S33 p37 (10 : Int32) (0 : Int32) r14) (fun r42 S43 =>
  some ((1 : Int32), S43)))))))))))
  else (some ((0 : Int32), S15)))))))
set_option maxRecDepth 10000 in
theorem c_X1_clause (l : Launch) {D : va_G} {cy : Nat → ClassId} {ad : Nat → Nat → Nat} {k : Nat} (hJ : wJ ad (nX k)) (S : St) : CT l yX1_clause cX1_clause 3 (some .boolean) 22 D cy ad (nX k) toI okZ [.ref (ad 1 0)] S (F_X1_clause S) := by
  refine CT.of RX1 (by decide) rfl hJ (Nat.le_of_ble_eq_true rfl) rfl ?_
  intro p e s m below meth c cx
  unfold F_X1_clause
  refine G_aload_n (q := 1) cx dX1_clause_0 rfl rfl ?_
  refine G_callV (q := 4) (d' := 0) (f := 1) (i := 0) (As := []) (rest := []) (stk := fun r1 => [.int r1]) cx dX1_clause_1 rfl cf_1 (Nat.le_of_ble_eq_true rfl) ml_RX1_39 rfl rfl (Nat.le_of_ble_eq_true rfl) (Nat.le_of_ble_eq_true rfl) (Nat.le_of_ble_eq_true rfl) (c_X1_peeked l hJ _) (fun _ => rfl) (fun r1 S2 h3 o4 => ?_)
  refine G_istore_n (q := 5) (ls' := [(1, .int r1), (0, .ref (ad 1 0))]) cx dX1_clause_4 rfl rfl (Nat.le_of_ble_eq_true rfl) rfl ?_
  refine G_aload_n (q := 6) cx dX1_clause_5 rfl rfl ?_
  refine G_iload_n (q := 7) cx dX1_clause_6 rfl rfl ?_
  refine G_callS (q := 10) (d' := 0) (As := [.int r1]) (rest := [.ref (ad 1 0)]) (stk := fun r5 => [.ref (ad 19 r5), .ref (ad 1 0)]) cx dX1_clause_7 rfl ml_RX1_43 rfl rfl (Nat.le_of_ble_eq_true rfl) (Nat.le_of_ble_eq_true rfl) (Nat.le_of_ble_eq_true rfl) (c_X1_wordWith l hJ _ r1) (fun _ => rfl) (fun r5 S6 h7 h_r5 => ?_)
  refine G_callV (q := 13) (d' := 4) (f := 1) (i := 0) (As := [.ref (ad 19 r5)]) (rest := []) (stk := fun r9 => [.int r9]) cx dX1_clause_10 rfl cf_1 (Nat.le_of_ble_eq_true rfl) ml_RX1_47 rfl rfl (Nat.le_of_ble_eq_true rfl) (Nat.le_of_ble_eq_true rfl) (Nat.le_of_ble_eq_true rfl) (c_X1_word l hJ _ r5 h_r5) (fun _ => rfl) (fun r9 S10 h11 o12 => ?_)
  refine G_if_ne (q := 16) (t := 18) cx dX1_clause_13 rfl (by decide) (fun c13 => ?_) (fun c13 => ?_)
  · refine G_aload_n (q := 19) cx dX1_clause_18 rfl rfl ?_
    refine G_callV (q := 22) (d' := 1) (f := 1) (i := 0) (As := []) (rest := []) (stk := fun r14 => [.int r14]) cx dX1_clause_19 rfl cf_1 (Nat.le_of_ble_eq_true rfl) ml_RX1_51 rfl rfl (Nat.le_of_ble_eq_true rfl) (Nat.le_of_ble_eq_true rfl) (Nat.le_of_ble_eq_true rfl) (c_X1_number l hJ _) (fun _ => rfl) (fun r14 S15 h16 o17 => ?_)
    refine G_istore_n (q := 23) (ls' := [(2, .int r14), (1, .int r1), (0, .ref (ad 1 0))]) cx dX1_clause_22 rfl rfl (Nat.le_of_ble_eq_true rfl) rfl ?_
    refine G_iload_n (q := 24) cx dX1_clause_23 rfl rfl ?_
    refine G_if_ge (q := 27) (t := 29) cx dX1_clause_24 rfl (by decide) (fun c18 => ?_) (fun c18 => ?_)
    · refine G_iload_n (q := 30) cx dX1_clause_29 rfl rfl ?_
      refine G_case (fun w19 => ?_) (fun w19 => ?_)
      · refine G_lsw (t := 56) (off := 26) cx dX1_clause_30 (by decide) (by rw [w19] <;> decide) (by decide) ?_
        refine G_aload_n (q := 57) cx dX1_clause_56 rfl rfl ?_
        refine G_geta (q := 60) cx dX1_clause_57 rfl cf_1 fl_RX1_22 (Nat.le_of_ble_eq_true rfl) rfl (Nat.le_of_ble_eq_true rfl) (fun e21 => ?_) (fun p20 e22 h_p20 => ?_)
        · exact G_none
        refine G_bipush (q := 62) (v := (10 : Int32)) cx dX1_clause_60 rfl (by decide) ?_
        refine G_iload_n (q := 63) cx dX1_clause_62 rfl rfl ?_
        refine G_imul (q := 64) cx dX1_clause_63 rfl ?_
        refine G_sipush (q := 67) (v := (400 : Int32)) cx dX1_clause_64 rfl (by decide) ?_
        refine G_mmin (q := 70) cx dX1_clause_67 rfl ml_RX1_55 (Nat.le_of_ble_eq_true rfl) (Nat.le_of_ble_eq_true rfl) ?_
        refine G_puti (q := 73) cx dX1_clause_70 rfl cf_0 fl_RX1_61 (Nat.le_of_ble_eq_true rfl) rfl rfl rfl rfl rfl h_p20 ?_
        refine G_iconst (q := 74) (v := (1 : Int32)) cx dX1_clause_73 rfl (by decide) ?_
        exact G_zret (ty := .boolean) cx rfl dX1_clause_74 rfl rfl
      refine G_case (fun w23 => ?_) (fun w23 => ?_)
      · refine G_lsw (t := 75) (off := 45) cx dX1_clause_30 (by decide) (by rw [w23] <;> decide) (by decide) ?_
        refine G_aload_n (q := 76) cx dX1_clause_75 rfl rfl ?_
        refine G_geta (q := 79) cx dX1_clause_76 rfl cf_1 fl_RX1_22 (Nat.le_of_ble_eq_true rfl) rfl (Nat.le_of_ble_eq_true rfl) (fun e25 => ?_) (fun p24 e26 h_p24 => ?_)
        · exact G_none
        refine G_bipush (q := 81) (v := (10 : Int32)) cx dX1_clause_79 rfl (by decide) ?_
        refine G_iload_n (q := 82) cx dX1_clause_81 rfl rfl ?_
        refine G_imul (q := 83) cx dX1_clause_82 rfl ?_
        refine G_puti (q := 86) cx dX1_clause_83 rfl cf_0 fl_RX1_64 (Nat.le_of_ble_eq_true rfl) rfl rfl rfl rfl rfl h_p24 ?_
        refine G_iconst (q := 87) (v := (1 : Int32)) cx dX1_clause_86 rfl (by decide) ?_
        exact G_zret (ty := .boolean) cx rfl dX1_clause_87 rfl rfl
      refine G_lsw (t := 88) (off := 58) cx dX1_clause_30 (by decide) (by show Op.lookupswitch.offset [(98, 26), (115, 45)] 58 _ = _; rw [lv_osw w19 (show (98 : Int32).toInt = 98 by decide)]; rw [lv_osw w23 (show (115 : Int32).toInt = 115 by decide)] <;> rfl) (by decide) ?_
      refine G_aload_n (q := 89) cx dX1_clause_88 rfl rfl ?_
      refine G_bipush (q := 91) (v := (32 : Int32)) cx dX1_clause_89 rfl (by decide) ?_
      refine G_callV (q := 94) (d' := 1) (f := 1) (i := 0) (As := [.int (32 : Int32)]) (rest := []) (stk := fun r27 => [.int r27]) cx dX1_clause_91 rfl cf_1 (Nat.le_of_ble_eq_true rfl) ml_RX1_35 rfl rfl (Nat.le_of_ble_eq_true rfl) (Nat.le_of_ble_eq_true rfl) (Nat.le_of_ble_eq_true rfl) (c_X1_takes l hJ _ (32 : Int32)) (fun _ => rfl) (fun r27 S28 h29 o30 => ?_)
      refine G_if_eq (q := 97) (t := 105) cx dX1_clause_94 rfl (by decide) (fun c31 => ?_) (fun c31 => ?_)
      · refine G_iconst (q := 106) (v := (0 : Int32)) cx dX1_clause_105 rfl (by decide) ?_
        exact G_zret (ty := .boolean) cx rfl dX1_clause_106 rfl rfl
      refine G_aload_n (q := 98) cx dX1_clause_97 rfl rfl ?_
      refine G_iconst (q := 99) (v := (0 : Int32)) cx dX1_clause_98 rfl (by decide) ?_
      refine G_callV (q := 102) (d' := 21) (f := 1) (i := 0) (As := [.int (0 : Int32)]) (rest := []) (stk := fun r32 => [.int r32]) cx dX1_clause_99 rfl cf_1 (Nat.le_of_ble_eq_true rfl) ml_RX1_67 rfl rfl (Nat.le_of_ble_eq_true rfl) (Nat.le_of_ble_eq_true rfl) (Nat.le_of_ble_eq_true rfl) (c_X1_expression l hJ (F_X1_factor 6) 20 (by omega) (fun S w => c_X1_factor l hJ 6 S w) _ (0 : Int32)) (fun _ => rfl) (fun r32 S33 h34 o35 => ?_)
      refine G_if_ne (q := 105) (t := 107) cx dX1_clause_102 rfl (by decide) (fun c36 => ?_) (fun c36 => ?_)
      · refine G_aload_n (q := 108) cx dX1_clause_107 rfl rfl ?_
        refine G_geta (q := 111) cx dX1_clause_108 rfl cf_1 fl_RX1_22 (Nat.le_of_ble_eq_true rfl) rfl (Nat.le_of_ble_eq_true rfl) (fun e38 => ?_) (fun p37 e39 h_p37 => ?_)
        · refine G_iload_n (q := 112) cx dX1_clause_111 rfl rfl ?_
          refine G_bipush (q := 114) (v := (117 : Int32)) cx dX1_clause_112 rfl (by decide) ?_
          refine G_icmp_ne (q := 117) (t := 122) cx dX1_clause_114 rfl (by decide) (fun c40 => ?_) (fun c40 => ?_)
          · refine G_bipush (q := 124) (v := (10 : Int32)) cx dX1_clause_122 rfl (by decide) ?_
            refine G_iconst (q := 125) (v := (0 : Int32)) cx dX1_clause_124 rfl (by decide) ?_
            refine G_iload_n (q := 126) cx dX1_clause_125 rfl rfl ?_
            exact G_none
          refine G_bipush (q := 119) (v := (9 : Int32)) cx dX1_clause_117 rfl (by decide) ?_
          refine G_goto (t := 124) cx dX1_clause_119 (by decide) ?_
          refine G_iconst (q := 125) (v := (0 : Int32)) cx dX1_clause_124 rfl (by decide) ?_
          refine G_iload_n (q := 126) cx dX1_clause_125 rfl rfl ?_
          exact G_none
        refine G_iload_n (q := 112) cx dX1_clause_111 rfl rfl ?_
        refine G_bipush (q := 114) (v := (117 : Int32)) cx dX1_clause_112 rfl (by decide) ?_
        refine G_icmp_ne (q := 117) (t := 122) cx dX1_clause_114 rfl (by decide) (fun c41 => ?_) (fun c41 => ?_)
        · refine G_bipush (q := 124) (v := (10 : Int32)) cx dX1_clause_122 rfl (by decide) ?_
          refine G_iconst (q := 125) (v := (0 : Int32)) cx dX1_clause_124 rfl (by decide) ?_
          refine G_iload_n (q := 126) cx dX1_clause_125 rfl rfl ?_
          refine G_callV (q := 129) (d' := 0) (f := 0) (i := p37) (As := [.int (10 : Int32), .int (0 : Int32), .int r14]) (rest := []) (stk := fun _ => []) cx dX1_clause_126 rfl cf_0 h_p37 ml_RX1_71 rfl rfl (Nat.le_of_ble_eq_true rfl) (Nat.le_of_ble_eq_true rfl) (Nat.le_of_ble_eq_true rfl) (c_X0_addStep l hJ _ p37 (10 : Int32) (0 : Int32) r14 h_p37) (fun _ => rfl) (fun r42 S43 h44 o45 => ?_)
          refine G_iconst (q := 130) (v := (1 : Int32)) cx dX1_clause_129 rfl (by decide) ?_
          exact G_zret (ty := .boolean) cx rfl dX1_clause_130 rfl rfl
        refine G_bipush (q := 119) (v := (9 : Int32)) cx dX1_clause_117 rfl (by decide) ?_
        refine G_goto (t := 124) cx dX1_clause_119 (by decide) ?_
        refine G_iconst (q := 125) (v := (0 : Int32)) cx dX1_clause_124 rfl (by decide) ?_
        refine G_iload_n (q := 126) cx dX1_clause_125 rfl rfl ?_
        refine G_callV (q := 129) (d' := 0) (f := 0) (i := p37) (As := [.int (9 : Int32), .int (0 : Int32), .int r14]) (rest := []) (stk := fun _ => []) cx dX1_clause_126 rfl cf_0 h_p37 ml_RX1_71 rfl rfl (Nat.le_of_ble_eq_true rfl) (Nat.le_of_ble_eq_true rfl) (Nat.le_of_ble_eq_true rfl) (c_X0_addStep l hJ _ p37 (9 : Int32) (0 : Int32) r14 h_p37) (fun _ => rfl) (fun r46 S47 h48 o49 => ?_)
        refine G_iconst (q := 130) (v := (1 : Int32)) cx dX1_clause_129 rfl (by decide) ?_
        exact G_zret (ty := .boolean) cx rfl dX1_clause_130 rfl rfl
      · refine G_iconst (q := 106) (v := (0 : Int32)) cx dX1_clause_105 rfl (by decide) ?_
        exact G_zret (ty := .boolean) cx rfl dX1_clause_106 rfl rfl
    · refine G_iconst (q := 28) (v := (0 : Int32)) cx dX1_clause_27 rfl (by decide) ?_
      exact G_zret (ty := .boolean) cx rfl dX1_clause_28 rfl rfl
  · refine G_iconst (q := 17) (v := (0 : Int32)) cx dX1_clause_16 rfl (by decide) ?_
    exact G_zret (ty := .boolean) cx rfl dX1_clause_17 rfl rfl
def L_X1_parse_25 (K_10 : Int32 → St → Option (Int32 × St)) : Nat → Int32 → St → Option (Int32 × St)
  | 0, _, _ => none
  | n + 1, x2_10, S_10 =>
    if (10 : Int32) ≤ x2_10 then (K_10 x2_10 S_10)
    else (bnd (F_X1_takes S_10 (59 : Int32)) (fun r13 S14 =>
    if r13 = 0 then (K_10 x2_10 S14)
    else (bnd (F_X1_clause S14) (fun r18 S19 =>
    if r18 = 0 then (some ((0 : Int32), S19))
    else (L_X1_parse_25 K_10 n (x2_10 + 1) S19)))))
def F_X1_parse (S : St) (a1 : Nat) : Option (Int32 × St) :=
  bnd (F_X0_begin S a1) (fun r1 S2 =>
  bnd (F_X1_clause (sI (sR S2 1 0 3 (some a1)) 1 0 2 (0 : Int32))) (fun r5 S6 =>
  if r5 = 0 then (some ((0 : Int32), S6))
  else (L_X1_parse_25 
  (fun y2_10 T_10 => if (gI T_10 1 0 2) = (gI T_10 1 0 1) then (some ((1 : Int32), T_10))
  else (some ((0 : Int32), T_10))) 1000 (1 : Int32) S6)))
set_option maxRecDepth 10000 in
theorem c_X1_parse (l : Launch) {D : va_G} {cy : Nat → ClassId} {ad : Nat → Nat → Nat} {k : Nat} (hJ : wJ ad (nX k)) (S : St) (a1 : Nat) (h_a1 : a1 < 1 + k) : CT l yX1_parse cX1_parse 3 (some .boolean) 23 D cy ad (nX k) toI okZ [.ref (ad 1 0), .ref (ad 0 a1)] S (F_X1_parse S a1) := by
  refine CT.of RX1 (by decide) rfl hJ (Nat.le_of_ble_eq_true rfl) rfl ?_
  intro p e s m below meth c cx
  unfold F_X1_parse
  refine G_aload_n (q := 1) cx dX1_parse_0 rfl rfl ?_
  refine G_callV (q := 4) (d' := 0) (f := 0) (i := a1) (As := []) (rest := []) (stk := fun _ => []) cx dX1_parse_1 rfl cf_0 h_a1 ml_RX1_26 rfl rfl (Nat.le_of_ble_eq_true rfl) (Nat.le_of_ble_eq_true rfl) (Nat.le_of_ble_eq_true rfl) (c_X0_begin l hJ _ a1 h_a1) (fun _ => rfl) (fun r1 S2 h3 o4 => ?_)
  refine G_aload_n (q := 5) cx dX1_parse_4 rfl rfl ?_
  refine G_aload_n (q := 6) cx dX1_parse_5 rfl rfl ?_
  refine G_puta (q := 9) cx dX1_parse_6 rfl cf_1 fl_RX1_22 (Nat.le_of_ble_eq_true rfl) rfl rfl rfl (fun _ => rfl) (fun _ => rfl) h_a1 (Nat.le_of_ble_eq_true rfl) ?_
  refine G_aload_n (q := 10) cx dX1_parse_9 rfl rfl ?_
  refine G_iconst (q := 11) (v := (0 : Int32)) cx dX1_parse_10 rfl (by decide) ?_
  refine G_puti (q := 14) cx dX1_parse_11 rfl cf_1 fl_RX1_19 (Nat.le_of_ble_eq_true rfl) rfl rfl rfl rfl rfl (Nat.le_of_ble_eq_true rfl) ?_
  refine G_aload_n (q := 15) cx dX1_parse_14 rfl rfl ?_
  refine G_callV (q := 18) (d' := 22) (f := 1) (i := 0) (As := []) (rest := []) (stk := fun r5 => [.int r5]) cx dX1_parse_15 rfl cf_1 (Nat.le_of_ble_eq_true rfl) ml_RX1_31 rfl rfl (Nat.le_of_ble_eq_true rfl) (Nat.le_of_ble_eq_true rfl) (Nat.le_of_ble_eq_true rfl) (c_X1_clause l hJ _) (fun _ => rfl) (fun r5 S6 h7 o8 => ?_)
  refine G_if_ne (q := 21) (t := 23) cx dX1_parse_18 rfl (by decide) (fun c9 => ?_) (fun c9 => ?_)
  · refine G_iconst (q := 24) (v := (1 : Int32)) cx dX1_parse_23 rfl (by decide) ?_
    refine G_istore_n (q := 25) (ls' := [(2, .int (1 : Int32)), (0, .ref (ad 1 0)), (1, .ref (ad 0 a1))]) cx dX1_parse_24 rfl rfl (Nat.le_of_ble_eq_true rfl) rfl ?_
    have lp_10 : ∀ (K_10 : Int32 → St → Option (Int32 × St)) (hK_10 : ∀ (y2_10 : Int32) (T_10 : St), TG p l e 23 s m ([.ref (ad 1 0), .ref (ad 0 a1)] : List Value).toArray below meth c D cy ad (nX k) toI okZ T_10 55 [(2, .int y2_10), (0, .ref (ad 1 0)), (1, .ref (ad 0 a1))] [] (K_10 y2_10 T_10)), ∀ (n_10 : Nat) (x2_10 : Int32) (S_10 : St), TG p l e 23 s m ([.ref (ad 1 0), .ref (ad 0 a1)] : List Value).toArray below meth c D cy ad (nX k) toI okZ S_10 25 [(2, .int x2_10), (0, .ref (ad 1 0)), (1, .ref (ad 0 a1))] [] (L_X1_parse_25 K_10 n_10 x2_10 S_10) := by
      intro K_10 hK_10 n_10
      induction n_10 with
      | zero => intros; exact G_none
      | succ n_10 ih_10 =>
        intro x2_10 S_10
        rw [L_X1_parse_25.eq_2]
        refine G_iload_n (q := 26) cx dX1_parse_25 rfl rfl ?_
        refine G_bipush (q := 28) (v := (10 : Int32)) cx dX1_parse_26 rfl (by decide) ?_
        refine G_icmp_ge (q := 31) (t := 55) cx dX1_parse_28 rfl (by decide) (fun c12 => ?_) (fun c12 => ?_)
        · exact G_loc [0, 1, 2] rfl (hK_10 x2_10 S_10)
        refine G_aload_n (q := 32) cx dX1_parse_31 rfl rfl ?_
        refine G_bipush (q := 34) (v := (59 : Int32)) cx dX1_parse_32 rfl (by decide) ?_
        refine G_callV (q := 37) (d' := 1) (f := 1) (i := 0) (As := [.int (59 : Int32)]) (rest := []) (stk := fun r13 => [.int r13]) cx dX1_parse_34 rfl cf_1 (Nat.le_of_ble_eq_true rfl) ml_RX1_35 rfl rfl (Nat.le_of_ble_eq_true rfl) (Nat.le_of_ble_eq_true rfl) (Nat.le_of_ble_eq_true rfl) (c_X1_takes l hJ _ (59 : Int32)) (fun _ => rfl) (fun r13 S14 h15 o16 => ?_)
        refine G_if_eq (q := 40) (t := 55) cx dX1_parse_37 rfl (by decide) (fun c17 => ?_) (fun c17 => ?_)
        · exact G_loc [0, 1, 2] rfl (hK_10 x2_10 S14)
        refine G_aload_n (q := 41) cx dX1_parse_40 rfl rfl ?_
        refine G_callV (q := 44) (d' := 22) (f := 1) (i := 0) (As := []) (rest := []) (stk := fun r18 => [.int r18]) cx dX1_parse_41 rfl cf_1 (Nat.le_of_ble_eq_true rfl) ml_RX1_31 rfl rfl (Nat.le_of_ble_eq_true rfl) (Nat.le_of_ble_eq_true rfl) (Nat.le_of_ble_eq_true rfl) (c_X1_clause l hJ _) (fun _ => rfl) (fun r18 S19 h20 o21 => ?_)
        refine G_if_ne (q := 47) (t := 49) cx dX1_parse_44 rfl (by decide) (fun c22 => ?_) (fun c22 => ?_)
        · refine G_iinc (q := 52) (j := 0) (v := x2_10 + 1) (ls' := [(2, .int (x2_10 + 1)), (0, .ref (ad 1 0)), (1, .ref (ad 0 a1))]) cx dX1_parse_49 rfl rfl rfl (Nat.le_of_ble_eq_true rfl) rfl ?_
          refine G_goto (t := 25) cx dX1_parse_52 (by decide) ?_
          exact G_loc [0, 1, 2] rfl (ih_10 (x2_10 + 1) S19)
        · refine G_iconst (q := 48) (v := (0 : Int32)) cx dX1_parse_47 rfl (by decide) ?_
          exact G_zret (ty := .boolean) cx rfl dX1_parse_48 rfl rfl
    refine G_loc [0, 1, 2] rfl (lp_10 _ (fun y2_10 T_10 => ?_) 1000 (1 : Int32) S6)
    refine G_aload_n (q := 56) cx dX1_parse_55 rfl rfl ?_
    refine G_geti (q := 59) cx dX1_parse_56 rfl cf_1 fl_RX1_19 (Nat.le_of_ble_eq_true rfl) rfl (Nat.le_of_ble_eq_true rfl) ?_
    refine G_aload_n (q := 60) cx dX1_parse_59 rfl rfl ?_
    refine G_geti (q := 63) cx dX1_parse_60 rfl cf_1 fl_RX1_15 (Nat.le_of_ble_eq_true rfl) rfl (Nat.le_of_ble_eq_true rfl) ?_
    refine G_icmp_ne (q := 66) (t := 70) cx dX1_parse_63 rfl (by decide) (fun c11 => ?_) (fun c11 => ?_)
    · refine G_iconst (q := 71) (v := (0 : Int32)) cx dX1_parse_70 rfl (by decide) ?_
      exact G_zret (ty := .boolean) cx rfl dX1_parse_71 rfl rfl
    · refine G_iconst (q := 67) (v := (1 : Int32)) cx dX1_parse_66 rfl (by decide) ?_
      refine G_goto (t := 71) cx dX1_parse_67 (by decide) ?_
      exact G_zret (ty := .boolean) cx rfl dX1_parse_71 rfl rfl
  · refine G_iconst (q := 22) (v := (0 : Int32)) cx dX1_parse_21 rfl (by decide) ?_
    exact G_zret (ty := .boolean) cx rfl dX1_parse_22 rfl rfl
def F_X2_sinkOfMile (S : St) (a0 : Int32) : Option (Int32 × St) :=
  some ((5 : Int32) + a0, S)
set_option maxRecDepth 10000 in
theorem c_X2_sinkOfMile (l : Launch) {D : va_G} {cy : Nat → ClassId} {ad : Nat → Nat → Nat} {k : Nat} (hJ : wJ ad (nX k)) (S : St) (a0 : Int32) : CT l yX2_sinkOfMile cX2_sinkOfMile 1 (some .int) 0 D cy ad (nX k) toI okT [.int a0] S (F_X2_sinkOfMile S a0) := by
  refine CT.of RX2 (by decide) rfl hJ (Nat.le_of_ble_eq_true rfl) rfl ?_
  intro p e s m below meth c cx
  unfold F_X2_sinkOfMile
  refine G_iconst (q := 1) (v := (5 : Int32)) cx dX2_sinkOfMile_0 rfl (by decide) ?_
  refine G_iload_n (q := 2) cx dX2_sinkOfMile_1 rfl rfl ?_
  refine G_iadd (q := 3) cx dX2_sinkOfMile_2 rfl ?_
  exact G_iret cx rfl dX2_sinkOfMile_3 trivial
def F_X2_copyFrom (S : St) (i0 : Nat) (a1 : Nat) : Option (Unit × St) :=
  some ((), (sI (sI (sI S 2 i0 0 (gI S 2 a1 0)) 2 i0 1 (gI (sI S 2 i0 0 (gI S 2 a1 0)) 2 a1 1)) 2 i0 2 (gI (sI (sI S 2 i0 0 (gI S 2 a1 0)) 2 i0 1 (gI (sI S 2 i0 0 (gI S 2 a1 0)) 2 a1 1)) 2 a1 2)))
set_option maxRecDepth 10000 in
theorem c_X2_copyFrom (l : Launch) {D : va_G} {cy : Nat → ClassId} {ad : Nat → Nat → Nat} {k : Nat} (hJ : wJ ad (nX k)) (S : St) (i0 : Nat) (a1 : Nat) (h_i0 : i0 < 3) (h_a1 : a1 < 3) : CT l yX2_copyFrom cX2_copyFrom 2 none 0 D cy ad (nX k) toU okT [.ref (ad 2 i0), .ref (ad 2 a1)] S (F_X2_copyFrom S i0 a1) := by
  refine CT.of RX2 (by decide) rfl hJ (Nat.le_of_ble_eq_true rfl) rfl ?_
  intro p e s m below meth c cx
  unfold F_X2_copyFrom
  refine G_aload_n (q := 1) cx dX2_copyFrom_0 rfl rfl ?_
  refine G_aload_n (q := 2) cx dX2_copyFrom_1 rfl rfl ?_
  refine G_geti (q := 5) cx dX2_copyFrom_2 rfl cf_2 fl_RX2_7 (Nat.le_of_ble_eq_true rfl) rfl h_a1 ?_
  refine G_puti (q := 8) cx dX2_copyFrom_5 rfl cf_2 fl_RX2_7 (Nat.le_of_ble_eq_true rfl) rfl rfl rfl rfl rfl h_i0 ?_
  refine G_aload_n (q := 9) cx dX2_copyFrom_8 rfl rfl ?_
  refine G_aload_n (q := 10) cx dX2_copyFrom_9 rfl rfl ?_
  refine G_geti (q := 13) cx dX2_copyFrom_10 rfl cf_2 fl_RX2_13 (Nat.le_of_ble_eq_true rfl) rfl h_a1 ?_
  refine G_puti (q := 16) cx dX2_copyFrom_13 rfl cf_2 fl_RX2_13 (Nat.le_of_ble_eq_true rfl) rfl rfl rfl rfl rfl h_i0 ?_
  refine G_aload_n (q := 17) cx dX2_copyFrom_16 rfl rfl ?_
  refine G_aload_n (q := 18) cx dX2_copyFrom_17 rfl rfl ?_
  refine G_geti (q := 21) cx dX2_copyFrom_18 rfl cf_2 fl_RX2_16 (Nat.le_of_ble_eq_true rfl) rfl h_a1 ?_
  refine G_puti (q := 24) cx dX2_copyFrom_21 rfl cf_2 fl_RX2_16 (Nat.le_of_ble_eq_true rfl) rfl rfl rfl rfl rfl h_i0 ?_
  exact G_vret cx rfl dX2_copyFrom_24 trivial
def F_X2_glides (S : St) (i0 : Nat) (a1 : Int32) (a2 : Int32) : Option (Int32 × St) :=
  bnd (F_X2_sinkOfMile S a2) (fun r1 S2 =>
  if ((if 0 ≤ (a1 - (gI S 2 i0 0)) then (a1 - (gI S 2 i0 0)) else 0 - (a1 - (gI S 2 i0 0))) * r1) ≤ (gI S2 2 i0 1) then (some ((1 : Int32), (sI (sI (sI S2 2 i0 0 a1) 2 i0 1 ((gI (sI S2 2 i0 0 a1) 2 i0 1) - ((if 0 ≤ (a1 - (gI S 2 i0 0)) then (a1 - (gI S 2 i0 0)) else 0 - (a1 - (gI S 2 i0 0))) * r1))) 2 i0 2 ((gI (sI (sI S2 2 i0 0 a1) 2 i0 1 ((gI (sI S2 2 i0 0 a1) 2 i0 1) - ((if 0 ≤ (a1 - (gI S 2 i0 0)) then (a1 - (gI S 2 i0 0)) else 0 - (a1 - (gI S 2 i0 0))) * r1))) 2 i0 2) + ((if 0 ≤ (a1 - (gI S 2 i0 0)) then (a1 - (gI S 2 i0 0)) else 0 - (a1 - (gI S 2 i0 0))) * ((10 : Int32) - a2))))))
  else (some ((0 : Int32), S2)))
set_option maxRecDepth 10000 in
theorem c_X2_glides (l : Launch) {D : va_G} {cy : Nat → ClassId} {ad : Nat → Nat → Nat} {k : Nat} (hJ : wJ ad (nX k)) (S : St) (i0 : Nat) (a1 : Int32) (a2 : Int32) (h_i0 : i0 < 3) : CT l yX2_glides cX2_glides 5 (some .boolean) 1 D cy ad (nX k) toI okZ [.ref (ad 2 i0), .int a1, .int a2] S (F_X2_glides S i0 a1 a2) := by
  refine CT.of RX2 (by decide) rfl hJ (Nat.le_of_ble_eq_true rfl) rfl ?_
  intro p e s m below meth c cx
  unfold F_X2_glides
  refine G_iload_n (q := 1) cx dX2_glides_0 rfl rfl ?_
  refine G_aload_n (q := 2) cx dX2_glides_1 rfl rfl ?_
  refine G_geti (q := 5) cx dX2_glides_2 rfl cf_2 fl_RX2_7 (Nat.le_of_ble_eq_true rfl) rfl h_i0 ?_
  refine G_isub (q := 6) cx dX2_glides_5 rfl ?_
  refine G_mabs (q := 9) cx dX2_glides_6 rfl ml_RX2_19 (Nat.le_of_ble_eq_true rfl) (Nat.le_of_ble_eq_true rfl) ?_
  refine G_istore_n (q := 10) (ls' := [(3, .int (if 0 ≤ (a1 - (gI S 2 i0 0)) then (a1 - (gI S 2 i0 0)) else 0 - (a1 - (gI S 2 i0 0)))), (0, .ref (ad 2 i0)), (1, .int a1), (2, .int a2)]) cx dX2_glides_9 rfl rfl (Nat.le_of_ble_eq_true rfl) rfl ?_
  refine G_iload_n (q := 11) cx dX2_glides_10 rfl rfl ?_
  refine G_iload_n (q := 12) cx dX2_glides_11 rfl rfl ?_
  refine G_callS (q := 15) (d' := 0) (As := [.int a2]) (rest := [.int (if 0 ≤ (a1 - (gI S 2 i0 0)) then (a1 - (gI S 2 i0 0)) else 0 - (a1 - (gI S 2 i0 0)))]) (stk := fun r1 => [.int r1, .int (if 0 ≤ (a1 - (gI S 2 i0 0)) then (a1 - (gI S 2 i0 0)) else 0 - (a1 - (gI S 2 i0 0)))]) cx dX2_glides_12 rfl ml_RX2_25 rfl rfl (Nat.le_of_ble_eq_true rfl) (Nat.le_of_ble_eq_true rfl) (Nat.le_of_ble_eq_true rfl) (c_X2_sinkOfMile l hJ _ a2) (fun _ => rfl) (fun r1 S2 h3 o4 => ?_)
  refine G_imul (q := 16) cx dX2_glides_15 rfl ?_
  refine G_istore (q := 18) (ls' := [(4, .int ((if 0 ≤ (a1 - (gI S 2 i0 0)) then (a1 - (gI S 2 i0 0)) else 0 - (a1 - (gI S 2 i0 0))) * r1)), (3, .int (if 0 ≤ (a1 - (gI S 2 i0 0)) then (a1 - (gI S 2 i0 0)) else 0 - (a1 - (gI S 2 i0 0)))), (0, .ref (ad 2 i0)), (1, .int a1), (2, .int a2)]) cx dX2_glides_16 rfl (Nat.le_of_ble_eq_true rfl) rfl ?_
  refine G_iload (q := 20) cx dX2_glides_18 rfl rfl ?_
  refine G_aload_n (q := 21) cx dX2_glides_20 rfl rfl ?_
  refine G_geti (q := 24) cx dX2_glides_21 rfl cf_2 fl_RX2_13 (Nat.le_of_ble_eq_true rfl) rfl h_i0 ?_
  refine G_icmp_le (q := 27) (t := 29) cx dX2_glides_24 rfl (by decide) (fun c5 => ?_) (fun c5 => ?_)
  · refine G_aload_n (q := 30) cx dX2_glides_29 rfl rfl ?_
    refine G_iload_n (q := 31) cx dX2_glides_30 rfl rfl ?_
    refine G_puti (q := 34) cx dX2_glides_31 rfl cf_2 fl_RX2_7 (Nat.le_of_ble_eq_true rfl) rfl rfl rfl rfl rfl h_i0 ?_
    refine G_aload_n (q := 35) cx dX2_glides_34 rfl rfl ?_
    refine G_dup (q := 36) cx dX2_glides_35 rfl rfl ?_
    refine G_geti (q := 39) cx dX2_glides_36 rfl cf_2 fl_RX2_13 (Nat.le_of_ble_eq_true rfl) rfl h_i0 ?_
    refine G_iload (q := 41) cx dX2_glides_39 rfl rfl ?_
    refine G_isub (q := 42) cx dX2_glides_41 rfl ?_
    refine G_puti (q := 45) cx dX2_glides_42 rfl cf_2 fl_RX2_13 (Nat.le_of_ble_eq_true rfl) rfl rfl rfl rfl rfl h_i0 ?_
    refine G_aload_n (q := 46) cx dX2_glides_45 rfl rfl ?_
    refine G_dup (q := 47) cx dX2_glides_46 rfl rfl ?_
    refine G_geti (q := 50) cx dX2_glides_47 rfl cf_2 fl_RX2_16 (Nat.le_of_ble_eq_true rfl) rfl h_i0 ?_
    refine G_iload_n (q := 51) cx dX2_glides_50 rfl rfl ?_
    refine G_bipush (q := 53) (v := (10 : Int32)) cx dX2_glides_51 rfl (by decide) ?_
    refine G_iload_n (q := 54) cx dX2_glides_53 rfl rfl ?_
    refine G_isub (q := 55) cx dX2_glides_54 rfl ?_
    refine G_imul (q := 56) cx dX2_glides_55 rfl ?_
    refine G_iadd (q := 57) cx dX2_glides_56 rfl ?_
    refine G_puti (q := 60) cx dX2_glides_57 rfl cf_2 fl_RX2_16 (Nat.le_of_ble_eq_true rfl) rfl rfl rfl rfl rfl h_i0 ?_
    refine G_iconst (q := 61) (v := (1 : Int32)) cx dX2_glides_60 rfl (by decide) ?_
    exact G_zret (ty := .boolean) cx rfl dX2_glides_61 rfl rfl
  · refine G_iconst (q := 28) (v := (0 : Int32)) cx dX2_glides_27 rfl (by decide) ?_
    exact G_zret (ty := .boolean) cx rfl dX2_glides_28 rfl rfl
def F_X3_gain (S : St) (i0 : Nat) (a1 : Nat) (a2 : Int32) (a3 : Int32) : Option (Int32 × St) :=
  (gR S 3 i0 6).elim (bnd (F_X0_more (sI (sI (sR S 3 i0 6 (some a1)) 3 i0 7 (a2 / (50 : Int32))) 3 i0 8 (if (99 : Int32) < (a3 / (10 : Int32)) then (99 : Int32) else (a3 / (10 : Int32)))) a1 i0 (a2 / (50 : Int32)) (if (99 : Int32) < (a3 / (10 : Int32)) then (99 : Int32) else (a3 / (10 : Int32)))) (fun r4 S5 =>
  some ((gI (sI S5 3 i0 9 r4) 3 i0 5) + (gI (sI S5 3 i0 9 r4) 3 i0 9), (sI S5 3 i0 9 r4))))
  (fun p1 => if p1 = a1 then (if (gI S 3 i0 7) = (a2 / (50 : Int32)) then (if (gI S 3 i0 8) = (if (99 : Int32) < (a3 / (10 : Int32)) then (99 : Int32) else (a3 / (10 : Int32))) then (some ((gI S 3 i0 5) + (gI S 3 i0 9), S))
  else (bnd (F_X0_more (sI (sI (sR S 3 i0 6 (some a1)) 3 i0 7 (a2 / (50 : Int32))) 3 i0 8 (if (99 : Int32) < (a3 / (10 : Int32)) then (99 : Int32) else (a3 / (10 : Int32)))) a1 i0 (a2 / (50 : Int32)) (if (99 : Int32) < (a3 / (10 : Int32)) then (99 : Int32) else (a3 / (10 : Int32)))) (fun r19 S20 =>
  some ((gI (sI S20 3 i0 9 r19) 3 i0 5) + (gI (sI S20 3 i0 9 r19) 3 i0 9), (sI S20 3 i0 9 r19)))))
  else (bnd (F_X0_more (sI (sI (sR S 3 i0 6 (some a1)) 3 i0 7 (a2 / (50 : Int32))) 3 i0 8 (if (99 : Int32) < (a3 / (10 : Int32)) then (99 : Int32) else (a3 / (10 : Int32)))) a1 i0 (a2 / (50 : Int32)) (if (99 : Int32) < (a3 / (10 : Int32)) then (99 : Int32) else (a3 / (10 : Int32)))) (fun r14 S15 =>
  some ((gI (sI S15 3 i0 9 r14) 3 i0 5) + (gI (sI S15 3 i0 9 r14) 3 i0 9), (sI S15 3 i0 9 r14)))))
  else (bnd (F_X0_more (sI (sI (sR S 3 i0 6 (some a1)) 3 i0 7 (a2 / (50 : Int32))) 3 i0 8 (if (99 : Int32) < (a3 / (10 : Int32)) then (99 : Int32) else (a3 / (10 : Int32)))) a1 i0 (a2 / (50 : Int32)) (if (99 : Int32) < (a3 / (10 : Int32)) then (99 : Int32) else (a3 / (10 : Int32)))) (fun r9 S10 =>
  some ((gI (sI S10 3 i0 9 r9) 3 i0 5) + (gI (sI S10 3 i0 9 r9) 3 i0 9), (sI S10 3 i0 9 r9)))))
set_option maxRecDepth 10000 in
theorem c_X3_gain (l : Launch) {D : va_G} {cy : Nat → ClassId} {ad : Nat → Nat → Nat} {k : Nat} (hJ : wJ ad (nX k)) (S : St) (i0 : Nat) (a1 : Nat) (a2 : Int32) (a3 : Int32) (h_i0 : i0 < 12) (h_a1 : a1 < 1 + k) : CT l yX3_gain cX3_gain 6 (some .int) 2 D cy ad (nX k) toI okT [.ref (ad 3 i0), .ref (ad 0 a1), .int a2, .int a3] S (F_X3_gain S i0 a1 a2 a3) := by
  refine CT.of RX3 (by decide) rfl hJ (Nat.le_of_ble_eq_true rfl) rfl ?_
  intro p e s m below meth c cx
  unfold F_X3_gain
  refine G_iload_n (q := 1) cx dX3_gain_0 rfl rfl ?_
  refine G_bipush (q := 3) (v := (50 : Int32)) cx dX3_gain_1 rfl (by decide) ?_
  refine G_idiv (q := 4) cx dX3_gain_3 rfl (by decide) ?_
  refine G_istore (q := 6) (ls' := [(4, .int (a2 / (50 : Int32))), (0, .ref (ad 3 i0)), (1, .ref (ad 0 a1)), (2, .int a2), (3, .int a3)]) cx dX3_gain_4 rfl (Nat.le_of_ble_eq_true rfl) rfl ?_
  refine G_iload_n (q := 7) cx dX3_gain_6 rfl rfl ?_
  refine G_bipush (q := 9) (v := (10 : Int32)) cx dX3_gain_7 rfl (by decide) ?_
  refine G_idiv (q := 10) cx dX3_gain_9 rfl (by decide) ?_
  refine G_bipush (q := 12) (v := (99 : Int32)) cx dX3_gain_10 rfl (by decide) ?_
  refine G_mmin (q := 15) cx dX3_gain_12 rfl ml_RX3_51 (Nat.le_of_ble_eq_true rfl) (Nat.le_of_ble_eq_true rfl) ?_
  refine G_istore (q := 17) (ls' := [(5, .int (if (99 : Int32) < (a3 / (10 : Int32)) then (99 : Int32) else (a3 / (10 : Int32)))), (4, .int (a2 / (50 : Int32))), (0, .ref (ad 3 i0)), (1, .ref (ad 0 a1)), (2, .int a2), (3, .int a3)]) cx dX3_gain_15 rfl (Nat.le_of_ble_eq_true rfl) rfl ?_
  refine G_aload_n (q := 18) cx dX3_gain_17 rfl rfl ?_
  refine G_geta (q := 21) cx dX3_gain_18 rfl cf_3 fl_RX3_15 (Nat.le_of_ble_eq_true rfl) rfl h_i0 (fun e2 => ?_) (fun p1 e3 h_p1 => ?_)
  · refine G_aload_n (q := 22) cx dX3_gain_21 rfl rfl ?_
    refine G_acmp_nullne (t := 43) (q := 25) cx dX3_gain_22 rfl (by decide) ?_
    refine G_aload_n (q := 44) cx dX3_gain_43 rfl rfl ?_
    refine G_aload_n (q := 45) cx dX3_gain_44 rfl rfl ?_
    refine G_puta (q := 48) cx dX3_gain_45 rfl cf_3 fl_RX3_15 (Nat.le_of_ble_eq_true rfl) rfl rfl rfl (fun _ => rfl) (fun _ => rfl) h_a1 h_i0 ?_
    refine G_aload_n (q := 49) cx dX3_gain_48 rfl rfl ?_
    refine G_iload (q := 51) cx dX3_gain_49 rfl rfl ?_
    refine G_puti (q := 54) cx dX3_gain_51 rfl cf_3 fl_RX3_57 (Nat.le_of_ble_eq_true rfl) rfl rfl rfl rfl rfl h_i0 ?_
    refine G_aload_n (q := 55) cx dX3_gain_54 rfl rfl ?_
    refine G_iload (q := 57) cx dX3_gain_55 rfl rfl ?_
    refine G_puti (q := 60) cx dX3_gain_57 rfl cf_3 fl_RX3_60 (Nat.le_of_ble_eq_true rfl) rfl rfl rfl rfl rfl h_i0 ?_
    refine G_aload_n (q := 61) cx dX3_gain_60 rfl rfl ?_
    refine G_aload_n (q := 62) cx dX3_gain_61 rfl rfl ?_
    refine G_aload_n (q := 63) cx dX3_gain_62 rfl rfl ?_
    refine G_iload (q := 65) cx dX3_gain_63 rfl rfl ?_
    refine G_iload (q := 67) cx dX3_gain_65 rfl rfl ?_
    refine G_callV (q := 70) (d' := 1) (f := 0) (i := a1) (As := [.ref (ad 3 i0), .int (a2 / (50 : Int32)), .int (if (99 : Int32) < (a3 / (10 : Int32)) then (99 : Int32) else (a3 / (10 : Int32)))]) (rest := [.ref (ad 3 i0)]) (stk := fun r4 => [.int r4, .ref (ad 3 i0)]) cx dX3_gain_67 rfl cf_0 h_a1 ml_RX3_63 rfl rfl (Nat.le_of_ble_eq_true rfl) (Nat.le_of_ble_eq_true rfl) (Nat.le_of_ble_eq_true rfl) (c_X0_more l hJ _ a1 i0 (a2 / (50 : Int32)) (if (99 : Int32) < (a3 / (10 : Int32)) then (99 : Int32) else (a3 / (10 : Int32))) h_a1 h_i0) (fun _ => rfl) (fun r4 S5 h6 o7 => ?_)
    refine G_puti (q := 73) cx dX3_gain_70 rfl cf_3 fl_RX3_69 (Nat.le_of_ble_eq_true rfl) rfl rfl rfl rfl rfl h_i0 ?_
    refine G_aload_n (q := 74) cx dX3_gain_73 rfl rfl ?_
    refine G_geti (q := 77) cx dX3_gain_74 rfl cf_3 fl_RX3_32 (Nat.le_of_ble_eq_true rfl) rfl h_i0 ?_
    refine G_aload_n (q := 78) cx dX3_gain_77 rfl rfl ?_
    refine G_geti (q := 81) cx dX3_gain_78 rfl cf_3 fl_RX3_69 (Nat.le_of_ble_eq_true rfl) rfl h_i0 ?_
    refine G_iadd (q := 82) cx dX3_gain_81 rfl ?_
    exact G_iret cx rfl dX3_gain_82 trivial
  refine G_aload_n (q := 22) cx dX3_gain_21 rfl rfl ?_
  refine G_acmp_ne (t := 43) (q := 25) cx dX3_gain_22 rfl (by decide) h_p1 h_a1 (fun c8 => ?_) (fun c8 => ?_)
  · refine G_aload_n (q := 44) cx dX3_gain_43 rfl rfl ?_
    refine G_aload_n (q := 45) cx dX3_gain_44 rfl rfl ?_
    refine G_puta (q := 48) cx dX3_gain_45 rfl cf_3 fl_RX3_15 (Nat.le_of_ble_eq_true rfl) rfl rfl rfl (fun _ => rfl) (fun _ => rfl) h_a1 h_i0 ?_
    refine G_aload_n (q := 49) cx dX3_gain_48 rfl rfl ?_
    refine G_iload (q := 51) cx dX3_gain_49 rfl rfl ?_
    refine G_puti (q := 54) cx dX3_gain_51 rfl cf_3 fl_RX3_57 (Nat.le_of_ble_eq_true rfl) rfl rfl rfl rfl rfl h_i0 ?_
    refine G_aload_n (q := 55) cx dX3_gain_54 rfl rfl ?_
    refine G_iload (q := 57) cx dX3_gain_55 rfl rfl ?_
    refine G_puti (q := 60) cx dX3_gain_57 rfl cf_3 fl_RX3_60 (Nat.le_of_ble_eq_true rfl) rfl rfl rfl rfl rfl h_i0 ?_
    refine G_aload_n (q := 61) cx dX3_gain_60 rfl rfl ?_
    refine G_aload_n (q := 62) cx dX3_gain_61 rfl rfl ?_
    refine G_aload_n (q := 63) cx dX3_gain_62 rfl rfl ?_
    refine G_iload (q := 65) cx dX3_gain_63 rfl rfl ?_
    refine G_iload (q := 67) cx dX3_gain_65 rfl rfl ?_
    refine G_callV (q := 70) (d' := 1) (f := 0) (i := a1) (As := [.ref (ad 3 i0), .int (a2 / (50 : Int32)), .int (if (99 : Int32) < (a3 / (10 : Int32)) then (99 : Int32) else (a3 / (10 : Int32)))]) (rest := [.ref (ad 3 i0)]) (stk := fun r9 => [.int r9, .ref (ad 3 i0)]) cx dX3_gain_67 rfl cf_0 h_a1 ml_RX3_63 rfl rfl (Nat.le_of_ble_eq_true rfl) (Nat.le_of_ble_eq_true rfl) (Nat.le_of_ble_eq_true rfl) (c_X0_more l hJ _ a1 i0 (a2 / (50 : Int32)) (if (99 : Int32) < (a3 / (10 : Int32)) then (99 : Int32) else (a3 / (10 : Int32))) h_a1 h_i0) (fun _ => rfl) (fun r9 S10 h11 o12 => ?_)
    refine G_puti (q := 73) cx dX3_gain_70 rfl cf_3 fl_RX3_69 (Nat.le_of_ble_eq_true rfl) rfl rfl rfl rfl rfl h_i0 ?_
    refine G_aload_n (q := 74) cx dX3_gain_73 rfl rfl ?_
    refine G_geti (q := 77) cx dX3_gain_74 rfl cf_3 fl_RX3_32 (Nat.le_of_ble_eq_true rfl) rfl h_i0 ?_
    refine G_aload_n (q := 78) cx dX3_gain_77 rfl rfl ?_
    refine G_geti (q := 81) cx dX3_gain_78 rfl cf_3 fl_RX3_69 (Nat.le_of_ble_eq_true rfl) rfl h_i0 ?_
    refine G_iadd (q := 82) cx dX3_gain_81 rfl ?_
    exact G_iret cx rfl dX3_gain_82 trivial
  refine G_aload_n (q := 26) cx dX3_gain_25 rfl rfl ?_
  refine G_geti (q := 29) cx dX3_gain_26 rfl cf_3 fl_RX3_57 (Nat.le_of_ble_eq_true rfl) rfl h_i0 ?_
  refine G_iload (q := 31) cx dX3_gain_29 rfl rfl ?_
  refine G_icmp_ne (q := 34) (t := 43) cx dX3_gain_31 rfl (by decide) (fun c13 => ?_) (fun c13 => ?_)
  · refine G_aload_n (q := 44) cx dX3_gain_43 rfl rfl ?_
    refine G_aload_n (q := 45) cx dX3_gain_44 rfl rfl ?_
    refine G_puta (q := 48) cx dX3_gain_45 rfl cf_3 fl_RX3_15 (Nat.le_of_ble_eq_true rfl) rfl rfl rfl (fun _ => rfl) (fun _ => rfl) h_a1 h_i0 ?_
    refine G_aload_n (q := 49) cx dX3_gain_48 rfl rfl ?_
    refine G_iload (q := 51) cx dX3_gain_49 rfl rfl ?_
    refine G_puti (q := 54) cx dX3_gain_51 rfl cf_3 fl_RX3_57 (Nat.le_of_ble_eq_true rfl) rfl rfl rfl rfl rfl h_i0 ?_
    refine G_aload_n (q := 55) cx dX3_gain_54 rfl rfl ?_
    refine G_iload (q := 57) cx dX3_gain_55 rfl rfl ?_
    refine G_puti (q := 60) cx dX3_gain_57 rfl cf_3 fl_RX3_60 (Nat.le_of_ble_eq_true rfl) rfl rfl rfl rfl rfl h_i0 ?_
    refine G_aload_n (q := 61) cx dX3_gain_60 rfl rfl ?_
    refine G_aload_n (q := 62) cx dX3_gain_61 rfl rfl ?_
    refine G_aload_n (q := 63) cx dX3_gain_62 rfl rfl ?_
    refine G_iload (q := 65) cx dX3_gain_63 rfl rfl ?_
    refine G_iload (q := 67) cx dX3_gain_65 rfl rfl ?_
    refine G_callV (q := 70) (d' := 1) (f := 0) (i := a1) (As := [.ref (ad 3 i0), .int (a2 / (50 : Int32)), .int (if (99 : Int32) < (a3 / (10 : Int32)) then (99 : Int32) else (a3 / (10 : Int32)))]) (rest := [.ref (ad 3 i0)]) (stk := fun r14 => [.int r14, .ref (ad 3 i0)]) cx dX3_gain_67 rfl cf_0 h_a1 ml_RX3_63 rfl rfl (Nat.le_of_ble_eq_true rfl) (Nat.le_of_ble_eq_true rfl) (Nat.le_of_ble_eq_true rfl) (c_X0_more l hJ _ a1 i0 (a2 / (50 : Int32)) (if (99 : Int32) < (a3 / (10 : Int32)) then (99 : Int32) else (a3 / (10 : Int32))) h_a1 h_i0) (fun _ => rfl) (fun r14 S15 h16 o17 => ?_)
    refine G_puti (q := 73) cx dX3_gain_70 rfl cf_3 fl_RX3_69 (Nat.le_of_ble_eq_true rfl) rfl rfl rfl rfl rfl h_i0 ?_
    refine G_aload_n (q := 74) cx dX3_gain_73 rfl rfl ?_
    refine G_geti (q := 77) cx dX3_gain_74 rfl cf_3 fl_RX3_32 (Nat.le_of_ble_eq_true rfl) rfl h_i0 ?_
    refine G_aload_n (q := 78) cx dX3_gain_77 rfl rfl ?_
    refine G_geti (q := 81) cx dX3_gain_78 rfl cf_3 fl_RX3_69 (Nat.le_of_ble_eq_true rfl) rfl h_i0 ?_
    refine G_iadd (q := 82) cx dX3_gain_81 rfl ?_
    exact G_iret cx rfl dX3_gain_82 trivial
  refine G_aload_n (q := 35) cx dX3_gain_34 rfl rfl ?_
  refine G_geti (q := 38) cx dX3_gain_35 rfl cf_3 fl_RX3_60 (Nat.le_of_ble_eq_true rfl) rfl h_i0 ?_
  refine G_iload (q := 40) cx dX3_gain_38 rfl rfl ?_
  refine G_icmp_eq (q := 43) (t := 73) cx dX3_gain_40 rfl (by decide) (fun c18 => ?_) (fun c18 => ?_)
  · refine G_aload_n (q := 74) cx dX3_gain_73 rfl rfl ?_
    refine G_geti (q := 77) cx dX3_gain_74 rfl cf_3 fl_RX3_32 (Nat.le_of_ble_eq_true rfl) rfl h_i0 ?_
    refine G_aload_n (q := 78) cx dX3_gain_77 rfl rfl ?_
    refine G_geti (q := 81) cx dX3_gain_78 rfl cf_3 fl_RX3_69 (Nat.le_of_ble_eq_true rfl) rfl h_i0 ?_
    refine G_iadd (q := 82) cx dX3_gain_81 rfl ?_
    exact G_iret cx rfl dX3_gain_82 trivial
  refine G_aload_n (q := 44) cx dX3_gain_43 rfl rfl ?_
  refine G_aload_n (q := 45) cx dX3_gain_44 rfl rfl ?_
  refine G_puta (q := 48) cx dX3_gain_45 rfl cf_3 fl_RX3_15 (Nat.le_of_ble_eq_true rfl) rfl rfl rfl (fun _ => rfl) (fun _ => rfl) h_a1 h_i0 ?_
  refine G_aload_n (q := 49) cx dX3_gain_48 rfl rfl ?_
  refine G_iload (q := 51) cx dX3_gain_49 rfl rfl ?_
  refine G_puti (q := 54) cx dX3_gain_51 rfl cf_3 fl_RX3_57 (Nat.le_of_ble_eq_true rfl) rfl rfl rfl rfl rfl h_i0 ?_
  refine G_aload_n (q := 55) cx dX3_gain_54 rfl rfl ?_
  refine G_iload (q := 57) cx dX3_gain_55 rfl rfl ?_
  refine G_puti (q := 60) cx dX3_gain_57 rfl cf_3 fl_RX3_60 (Nat.le_of_ble_eq_true rfl) rfl rfl rfl rfl rfl h_i0 ?_
  refine G_aload_n (q := 61) cx dX3_gain_60 rfl rfl ?_
  refine G_aload_n (q := 62) cx dX3_gain_61 rfl rfl ?_
  refine G_aload_n (q := 63) cx dX3_gain_62 rfl rfl ?_
  refine G_iload (q := 65) cx dX3_gain_63 rfl rfl ?_
  refine G_iload (q := 67) cx dX3_gain_65 rfl rfl ?_
  refine G_callV (q := 70) (d' := 1) (f := 0) (i := a1) (As := [.ref (ad 3 i0), .int (a2 / (50 : Int32)), .int (if (99 : Int32) < (a3 / (10 : Int32)) then (99 : Int32) else (a3 / (10 : Int32)))]) (rest := [.ref (ad 3 i0)]) (stk := fun r19 => [.int r19, .ref (ad 3 i0)]) cx dX3_gain_67 rfl cf_0 h_a1 ml_RX3_63 rfl rfl (Nat.le_of_ble_eq_true rfl) (Nat.le_of_ble_eq_true rfl) (Nat.le_of_ble_eq_true rfl) (c_X0_more l hJ _ a1 i0 (a2 / (50 : Int32)) (if (99 : Int32) < (a3 / (10 : Int32)) then (99 : Int32) else (a3 / (10 : Int32))) h_a1 h_i0) (fun _ => rfl) (fun r19 S20 h21 o22 => ?_)
  refine G_puti (q := 73) cx dX3_gain_70 rfl cf_3 fl_RX3_69 (Nat.le_of_ble_eq_true rfl) rfl rfl rfl rfl rfl h_i0 ?_
  refine G_aload_n (q := 74) cx dX3_gain_73 rfl rfl ?_
  refine G_geti (q := 77) cx dX3_gain_74 rfl cf_3 fl_RX3_32 (Nat.le_of_ble_eq_true rfl) rfl h_i0 ?_
  refine G_aload_n (q := 78) cx dX3_gain_77 rfl rfl ?_
  refine G_geti (q := 81) cx dX3_gain_78 rfl cf_3 fl_RX3_69 (Nat.le_of_ble_eq_true rfl) rfl h_i0 ?_
  refine G_iadd (q := 82) cx dX3_gain_81 rfl ?_
  exact G_iret cx rfl dX3_gain_82 trivial
def F_X3_climb (S : St) (i0 : Nat) (a1 : Nat) (a2 : Int32) (a3 : Int32) : Option (Int32 × St) :=
  bnd (F_X3_gain S i0 a1 a2 a3) (fun r1 S2 =>
  if (gI S2 3 i0 2) = 1 then (some (r1 + ((gI S2 3 i0 3) / (2 : Int32)), S2))
  else (if (gI S2 3 i0 2) = 2 then (some (r1 / (2 : Int32), S2))
  else (if (gI S2 3 i0 2) = 3 then (if a3 < (100 : Int32) then (some (r1, S2))
  else (some ((-2 : Int32), S2)))
  else (if (gI S2 3 i0 2) = 4 then (if a2 ≤ ((40 : Int32) * (gI S2 3 i0 3)) then (some (r1 + ((gI S2 3 i0 3) / (2 : Int32)), S2))
  else (some ((0 : Int32), S2)))
  else (if (gI S2 3 i0 2) = 5 then (if ((gI S2 3 i0 3) + (2 : Int32)) = 0 then none else (if (a3 - a3 / ((gI S2 3 i0 3) + (2 : Int32)) * ((gI S2 3 i0 3) + (2 : Int32))) = 0 then (some ((-1 : Int32), S2))
  else (some (r1 / (2 : Int32), S2))))
  else (if (gI S2 3 i0 2) = 6 then (if a3 < (100 : Int32) then (if 0 ≤ (a3 &&& (3 : Int32)) ∧ (a3 &&& (3 : Int32)).toNatClampNeg < 4 then (some (r1 + (gI S2 13 i0 (a3 &&& (3 : Int32)).toNatClampNeg), S2))
  else none)
  else (if 0 ≤ (a3 &&& (3 : Int32)) ∧ (a3 &&& (3 : Int32)).toNatClampNeg < 4 then (some ((-2 : Int32) + (gI S2 13 i0 (a3 &&& (3 : Int32)).toNatClampNeg), S2))
  else none))
  else (some (r1, S2))))))))
set_option maxRecDepth 10000 in
theorem c_X3_climb (l : Launch) {D : va_G} {cy : Nat → ClassId} {ad : Nat → Nat → Nat} {k : Nat} (hJ : wJ ad (nX k)) (S : St) (i0 : Nat) (a1 : Nat) (a2 : Int32) (a3 : Int32) (h_i0 : i0 < 12) (h_a1 : a1 < 1 + k) : CT l yX3_climb cX3_climb 5 (some .int) 3 D cy ad (nX k) toI okT [.ref (ad 3 i0), .ref (ad 0 a1), .int a2, .int a3] S (F_X3_climb S i0 a1 a2 a3) := by
  refine CT.of RX3 (by decide) rfl hJ (Nat.le_of_ble_eq_true rfl) rfl ?_
  intro p e s m below meth c cx
  unfold F_X3_climb
  refine G_aload_n (q := 1) cx dX3_climb_0 rfl rfl ?_
  refine G_aload_n (q := 2) cx dX3_climb_1 rfl rfl ?_
  refine G_iload_n (q := 3) cx dX3_climb_2 rfl rfl ?_
  refine G_iload_n (q := 4) cx dX3_climb_3 rfl rfl ?_
  refine G_callV (q := 7) (d' := 2) (f := 3) (i := i0) (As := [.ref (ad 0 a1), .int a2, .int a3]) (rest := []) (stk := fun r1 => [.int r1]) cx dX3_climb_4 rfl cf_3 h_i0 ml_RX3_72 rfl rfl (Nat.le_of_ble_eq_true rfl) (Nat.le_of_ble_eq_true rfl) (Nat.le_of_ble_eq_true rfl) (c_X3_gain l hJ _ i0 a1 a2 a3 h_i0 h_a1) (fun _ => rfl) (fun r1 S2 h3 o4 => ?_)
  refine G_istore (q := 9) (ls' := [(4, .int r1), (0, .ref (ad 3 i0)), (1, .ref (ad 0 a1)), (2, .int a2), (3, .int a3)]) cx dX3_climb_7 rfl (Nat.le_of_ble_eq_true rfl) rfl ?_
  refine G_aload_n (q := 10) cx dX3_climb_9 rfl rfl ?_
  refine G_geti (q := 13) cx dX3_climb_10 rfl cf_3 fl_RX3_23 (Nat.le_of_ble_eq_true rfl) rfl h_i0 ?_
  refine G_case (fun w5 => ?_) (fun w5 => ?_)
  · refine G_tswIn (t := 52) (off := 39) cx dX3_climb_13 w5 (by decide) (by decide) (by decide) (by decide) ?_
    refine G_iload (q := 54) cx dX3_climb_52 rfl rfl ?_
    refine G_aload_n (q := 55) cx dX3_climb_54 rfl rfl ?_
    refine G_geti (q := 58) cx dX3_climb_55 rfl cf_3 fl_RX3_26 (Nat.le_of_ble_eq_true rfl) rfl h_i0 ?_
    refine G_iconst (q := 59) (v := (2 : Int32)) cx dX3_climb_58 rfl (by decide) ?_
    refine G_idiv (q := 60) cx dX3_climb_59 rfl (by decide) ?_
    refine G_iadd (q := 61) cx dX3_climb_60 rfl ?_
    exact G_iret cx rfl dX3_climb_61 trivial
  refine G_case (fun w6 => ?_) (fun w6 => ?_)
  · refine G_tswIn (t := 62) (off := 49) cx dX3_climb_13 w6 (by decide) (by decide) (by decide) (by decide) ?_
    refine G_iload (q := 64) cx dX3_climb_62 rfl rfl ?_
    refine G_iconst (q := 65) (v := (2 : Int32)) cx dX3_climb_64 rfl (by decide) ?_
    refine G_idiv (q := 66) cx dX3_climb_65 rfl (by decide) ?_
    exact G_iret cx rfl dX3_climb_66 trivial
  refine G_case (fun w7 => ?_) (fun w7 => ?_)
  · refine G_tswIn (t := 67) (off := 54) cx dX3_climb_13 w7 (by decide) (by decide) (by decide) (by decide) ?_
    refine G_iload_n (q := 68) cx dX3_climb_67 rfl rfl ?_
    refine G_bipush (q := 70) (v := (100 : Int32)) cx dX3_climb_68 rfl (by decide) ?_
    refine G_icmp_lt (q := 73) (t := 78) cx dX3_climb_70 rfl (by decide) (fun c8 => ?_) (fun c8 => ?_)
    · refine G_iload (q := 80) cx dX3_climb_78 rfl rfl ?_
      exact G_iret cx rfl dX3_climb_80 trivial
    · refine G_bipush (q := 75) (v := (-2 : Int32)) cx dX3_climb_73 rfl (by decide) ?_
      refine G_goto (t := 80) cx dX3_climb_75 (by decide) ?_
      exact G_iret cx rfl dX3_climb_80 trivial
  refine G_case (fun w9 => ?_) (fun w9 => ?_)
  · refine G_tswIn (t := 81) (off := 68) cx dX3_climb_13 w9 (by decide) (by decide) (by decide) (by decide) ?_
    refine G_iload_n (q := 82) cx dX3_climb_81 rfl rfl ?_
    refine G_bipush (q := 84) (v := (40 : Int32)) cx dX3_climb_82 rfl (by decide) ?_
    refine G_aload_n (q := 85) cx dX3_climb_84 rfl rfl ?_
    refine G_geti (q := 88) cx dX3_climb_85 rfl cf_3 fl_RX3_26 (Nat.le_of_ble_eq_true rfl) rfl h_i0 ?_
    refine G_imul (q := 89) cx dX3_climb_88 rfl ?_
    refine G_icmp_le (q := 92) (t := 96) cx dX3_climb_89 rfl (by decide) (fun c10 => ?_) (fun c10 => ?_)
    · refine G_iload (q := 98) cx dX3_climb_96 rfl rfl ?_
      refine G_aload_n (q := 99) cx dX3_climb_98 rfl rfl ?_
      refine G_geti (q := 102) cx dX3_climb_99 rfl cf_3 fl_RX3_26 (Nat.le_of_ble_eq_true rfl) rfl h_i0 ?_
      refine G_iconst (q := 103) (v := (2 : Int32)) cx dX3_climb_102 rfl (by decide) ?_
      refine G_idiv (q := 104) cx dX3_climb_103 rfl (by decide) ?_
      refine G_iadd (q := 105) cx dX3_climb_104 rfl ?_
      exact G_iret cx rfl dX3_climb_105 trivial
    · refine G_iconst (q := 93) (v := (0 : Int32)) cx dX3_climb_92 rfl (by decide) ?_
      refine G_goto (t := 105) cx dX3_climb_93 (by decide) ?_
      exact G_iret cx rfl dX3_climb_105 trivial
  refine G_case (fun w11 => ?_) (fun w11 => ?_)
  · refine G_tswIn (t := 106) (off := 93) cx dX3_climb_13 w11 (by decide) (by decide) (by decide) (by decide) ?_
    refine G_iload_n (q := 107) cx dX3_climb_106 rfl rfl ?_
    refine G_aload_n (q := 108) cx dX3_climb_107 rfl rfl ?_
    refine G_geti (q := 111) cx dX3_climb_108 rfl cf_3 fl_RX3_26 (Nat.le_of_ble_eq_true rfl) rfl h_i0 ?_
    refine G_iconst (q := 112) (v := (2 : Int32)) cx dX3_climb_111 rfl (by decide) ?_
    refine G_iadd (q := 113) cx dX3_climb_112 rfl ?_
    refine G_case (fun _ => G_none) (fun g12 => ?_)
    refine G_irem (q := 114) cx dX3_climb_113 rfl g12 ?_
    refine G_if_ne (q := 117) (t := 121) cx dX3_climb_114 rfl (by decide) (fun c13 => ?_) (fun c13 => ?_)
    · refine G_iload (q := 123) cx dX3_climb_121 rfl rfl ?_
      refine G_iconst (q := 124) (v := (2 : Int32)) cx dX3_climb_123 rfl (by decide) ?_
      refine G_idiv (q := 125) cx dX3_climb_124 rfl (by decide) ?_
      exact G_iret cx rfl dX3_climb_125 trivial
    · refine G_iconst (q := 118) (v := (-1 : Int32)) cx dX3_climb_117 rfl (by decide) ?_
      refine G_goto (t := 125) cx dX3_climb_118 (by decide) ?_
      exact G_iret cx rfl dX3_climb_125 trivial
  refine G_case (fun w14 => ?_) (fun w14 => ?_)
  · refine G_tswIn (t := 126) (off := 113) cx dX3_climb_13 w14 (by decide) (by decide) (by decide) (by decide) ?_
    refine G_iload_n (q := 127) cx dX3_climb_126 rfl rfl ?_
    refine G_bipush (q := 129) (v := (100 : Int32)) cx dX3_climb_127 rfl (by decide) ?_
    refine G_icmp_lt (q := 132) (t := 137) cx dX3_climb_129 rfl (by decide) (fun c15 => ?_) (fun c15 => ?_)
    · refine G_iload (q := 139) cx dX3_climb_137 rfl rfl ?_
      refine G_aload_n (q := 140) cx dX3_climb_139 rfl rfl ?_
      refine G_getr (q := 143) (g := 13) (i' := i0) cx dX3_climb_140 rfl cf_3 fl_RX3_9 (Nat.le_of_ble_eq_true rfl) rfl rfl h_i0 ?_
      refine G_iload_n (q := 144) cx dX3_climb_143 rfl rfl ?_
      refine G_iconst (q := 145) (v := (3 : Int32)) cx dX3_climb_144 rfl (by decide) ?_
      refine G_iand (q := 146) cx dX3_climb_145 rfl ?_
      refine G_iald (q := 147) cx dX3_climb_146 rfl (by decide) rfl rfl h_i0 (fun g16 g17 => ?_)
      refine G_iadd (q := 148) cx dX3_climb_147 rfl ?_
      exact G_iret cx rfl dX3_climb_148 trivial
    refine G_bipush (q := 134) (v := (-2 : Int32)) cx dX3_climb_132 rfl (by decide) ?_
    refine G_goto (t := 139) cx dX3_climb_134 (by decide) ?_
    refine G_aload_n (q := 140) cx dX3_climb_139 rfl rfl ?_
    refine G_getr (q := 143) (g := 13) (i' := i0) cx dX3_climb_140 rfl cf_3 fl_RX3_9 (Nat.le_of_ble_eq_true rfl) rfl rfl h_i0 ?_
    refine G_iload_n (q := 144) cx dX3_climb_143 rfl rfl ?_
    refine G_iconst (q := 145) (v := (3 : Int32)) cx dX3_climb_144 rfl (by decide) ?_
    refine G_iand (q := 146) cx dX3_climb_145 rfl ?_
    refine G_iald (q := 147) cx dX3_climb_146 rfl (by decide) rfl rfl h_i0 (fun g18 g19 => ?_)
    refine G_iadd (q := 148) cx dX3_climb_147 rfl ?_
    exact G_iret cx rfl dX3_climb_148 trivial
  have hz13_0 := lv_neT w5 (show (1 : Int32).toInt = 1 by decide)
  have hz13_1 := lv_neT w6 (show (2 : Int32).toInt = 2 by decide)
  have hz13_2 := lv_neT w7 (show (3 : Int32).toInt = 3 by decide)
  have hz13_3 := lv_neT w9 (show (4 : Int32).toInt = 4 by decide)
  have hz13_4 := lv_neT w11 (show (5 : Int32).toInt = 5 by decide)
  have hz13_5 := lv_neT w14 (show (6 : Int32).toInt = 6 by decide)
  refine G_tswOut (t := 149) cx dX3_climb_13 (by omega) (by decide) ?_
  refine G_iload (q := 151) cx dX3_climb_149 rfl rfl ?_
  exact G_iret cx rfl dX3_climb_151 trivial
def L_X2_circles_3 (i0 : Nat) (a1 : Nat) (a2 : Nat) (a3 : Int32) (K_1 : Int32 → St → Option (Unit × St)) : Nat → Int32 → St → Option (Unit × St)
  | 0, _, _ => none
  | n + 1, x4_1, S_1 =>
    if a3 ≤ x4_1 then (K_1 x4_1 S_1)
    else (bnd (F_X3_climb S_1 a1 a2 (gI S_1 2 i0 1) (gI S_1 2 i0 2)) (fun r3 S4 =>
    L_X2_circles_3 i0 a1 a2 a3 K_1 n (x4_1 + 1) (sI (sI S4 2 i0 1 (if (0 : Int32) < (if ((gI S_1 2 i0 1) + r3) < (if (gI S_1 0 a2 2) < (gI S_1 2 i0 1) then (gI S_1 2 i0 1) else (gI S_1 0 a2 2)) then ((gI S_1 2 i0 1) + r3) else (if (gI S_1 0 a2 2) < (gI S_1 2 i0 1) then (gI S_1 2 i0 1) else (gI S_1 0 a2 2))) then (if ((gI S_1 2 i0 1) + r3) < (if (gI S_1 0 a2 2) < (gI S_1 2 i0 1) then (gI S_1 2 i0 1) else (gI S_1 0 a2 2)) then ((gI S_1 2 i0 1) + r3) else (if (gI S_1 0 a2 2) < (gI S_1 2 i0 1) then (gI S_1 2 i0 1) else (gI S_1 0 a2 2))) else (0 : Int32))) 2 i0 2 ((gI (sI S4 2 i0 1 (if (0 : Int32) < (if ((gI S_1 2 i0 1) + r3) < (if (gI S_1 0 a2 2) < (gI S_1 2 i0 1) then (gI S_1 2 i0 1) else (gI S_1 0 a2 2)) then ((gI S_1 2 i0 1) + r3) else (if (gI S_1 0 a2 2) < (gI S_1 2 i0 1) then (gI S_1 2 i0 1) else (gI S_1 0 a2 2))) then (if ((gI S_1 2 i0 1) + r3) < (if (gI S_1 0 a2 2) < (gI S_1 2 i0 1) then (gI S_1 2 i0 1) else (gI S_1 0 a2 2)) then ((gI S_1 2 i0 1) + r3) else (if (gI S_1 0 a2 2) < (gI S_1 2 i0 1) then (gI S_1 2 i0 1) else (gI S_1 0 a2 2))) else (0 : Int32))) 2 i0 2) + (1 : Int32)))))
def F_X2_circles (S : St) (i0 : Nat) (a1 : Nat) (a2 : Nat) (a3 : Int32) : Option (Unit × St) :=
  L_X2_circles_3 i0 a1 a2 a3 
  (fun y4_1 T_1 => some ((), T_1)) 1000 (0 : Int32) S
set_option maxRecDepth 10000 in
theorem c_X2_circles (l : Launch) {D : va_G} {cy : Nat → ClassId} {ad : Nat → Nat → Nat} {k : Nat} (hJ : wJ ad (nX k)) (S : St) (i0 : Nat) (a1 : Nat) (a2 : Nat) (a3 : Int32) (h_i0 : i0 < 3) (h_a1 : a1 < 12) (h_a2 : a2 < 1 + k) : CT l yX2_circles cX2_circles 6 none 4 D cy ad (nX k) toU okT [.ref (ad 2 i0), .ref (ad 3 a1), .ref (ad 0 a2), .int a3] S (F_X2_circles S i0 a1 a2 a3) := by
  refine CT.of RX2 (by decide) rfl hJ (Nat.le_of_ble_eq_true rfl) rfl ?_
  intro p e s m below meth c cx
  unfold F_X2_circles
  refine G_iconst (q := 1) (v := (0 : Int32)) cx dX2_circles_0 rfl (by decide) ?_
  refine G_istore (q := 3) (ls' := [(4, .int (0 : Int32)), (0, .ref (ad 2 i0)), (1, .ref (ad 3 a1)), (2, .ref (ad 0 a2)), (3, .int a3)]) cx dX2_circles_1 rfl (Nat.le_of_ble_eq_true rfl) rfl ?_
  have lp_1 : ∀ (K_1 : Int32 → St → Option (Unit × St)) (hK_1 : ∀ (y4_1 : Int32) (T_1 : St), TG p l e 4 s m ([.ref (ad 2 i0), .ref (ad 3 a1), .ref (ad 0 a2), .int a3] : List Value).toArray below meth c D cy ad (nX k) toU okT T_1 69 [(4, .int y4_1), (0, .ref (ad 2 i0)), (1, .ref (ad 3 a1)), (2, .ref (ad 0 a2)), (3, .int a3)] [] (K_1 y4_1 T_1)), ∀ (n_1 : Nat) (x4_1 : Int32) (S_1 : St), TG p l e 4 s m ([.ref (ad 2 i0), .ref (ad 3 a1), .ref (ad 0 a2), .int a3] : List Value).toArray below meth c D cy ad (nX k) toU okT S_1 3 [(4, .int x4_1), (0, .ref (ad 2 i0)), (1, .ref (ad 3 a1)), (2, .ref (ad 0 a2)), (3, .int a3)] [] (L_X2_circles_3 i0 a1 a2 a3 K_1 n_1 x4_1 S_1) := by
    intro K_1 hK_1 n_1
    induction n_1 with
    | zero => intros; exact G_none
    | succ n_1 ih_1 =>
      intro x4_1 S_1
      rw [L_X2_circles_3.eq_2]
      refine G_iload (q := 5) cx dX2_circles_3 rfl rfl ?_
      refine G_iload_n (q := 6) cx dX2_circles_5 rfl rfl ?_
      refine G_icmp_ge (q := 9) (t := 69) cx dX2_circles_6 rfl (by decide) (fun c2 => ?_) (fun c2 => ?_)
      · exact G_loc [0, 1, 2, 3, 4] rfl (hK_1 x4_1 S_1)
      refine G_aload_n (q := 10) cx dX2_circles_9 rfl rfl ?_
      refine G_geti (q := 13) cx dX2_circles_10 rfl cf_0 fl_RX2_28 (Nat.le_of_ble_eq_true rfl) rfl h_a2 ?_
      refine G_aload_n (q := 14) cx dX2_circles_13 rfl rfl ?_
      refine G_geti (q := 17) cx dX2_circles_14 rfl cf_2 fl_RX2_13 (Nat.le_of_ble_eq_true rfl) rfl h_i0 ?_
      refine G_mmax (q := 20) cx dX2_circles_17 rfl ml_RX2_33 (Nat.le_of_ble_eq_true rfl) (Nat.le_of_ble_eq_true rfl) ?_
      refine G_istore (q := 22) (ls' := [(5, .int (if (gI S_1 0 a2 2) < (gI S_1 2 i0 1) then (gI S_1 2 i0 1) else (gI S_1 0 a2 2))), (4, .int x4_1), (0, .ref (ad 2 i0)), (1, .ref (ad 3 a1)), (2, .ref (ad 0 a2)), (3, .int a3)]) cx dX2_circles_20 rfl (Nat.le_of_ble_eq_true rfl) rfl ?_
      refine G_aload_n (q := 23) cx dX2_circles_22 rfl rfl ?_
      refine G_iconst (q := 24) (v := (0 : Int32)) cx dX2_circles_23 rfl (by decide) ?_
      refine G_iload (q := 26) cx dX2_circles_24 rfl rfl ?_
      refine G_aload_n (q := 27) cx dX2_circles_26 rfl rfl ?_
      refine G_geti (q := 30) cx dX2_circles_27 rfl cf_2 fl_RX2_13 (Nat.le_of_ble_eq_true rfl) rfl h_i0 ?_
      refine G_aload_n (q := 31) cx dX2_circles_30 rfl rfl ?_
      refine G_aload_n (q := 32) cx dX2_circles_31 rfl rfl ?_
      refine G_aload_n (q := 33) cx dX2_circles_32 rfl rfl ?_
      refine G_geti (q := 36) cx dX2_circles_33 rfl cf_2 fl_RX2_13 (Nat.le_of_ble_eq_true rfl) rfl h_i0 ?_
      refine G_aload_n (q := 37) cx dX2_circles_36 rfl rfl ?_
      refine G_geti (q := 40) cx dX2_circles_37 rfl cf_2 fl_RX2_16 (Nat.le_of_ble_eq_true rfl) rfl h_i0 ?_
      refine G_callV (q := 43) (d' := 3) (f := 3) (i := a1) (As := [.ref (ad 0 a2), .int (gI S_1 2 i0 1), .int (gI S_1 2 i0 2)]) (rest := [.int (gI S_1 2 i0 1), .int (if (gI S_1 0 a2 2) < (gI S_1 2 i0 1) then (gI S_1 2 i0 1) else (gI S_1 0 a2 2)), .int (0 : Int32), .ref (ad 2 i0)]) (stk := fun r3 => [.int r3, .int (gI S_1 2 i0 1), .int (if (gI S_1 0 a2 2) < (gI S_1 2 i0 1) then (gI S_1 2 i0 1) else (gI S_1 0 a2 2)), .int (0 : Int32), .ref (ad 2 i0)]) cx dX2_circles_40 rfl cf_3 h_a1 ml_RX2_37 rfl rfl (Nat.le_of_ble_eq_true rfl) (Nat.le_of_ble_eq_true rfl) (Nat.le_of_ble_eq_true rfl) (c_X3_climb l hJ _ a1 a2 (gI S_1 2 i0 1) (gI S_1 2 i0 2) h_a1 h_a2) (fun _ => rfl) (fun r3 S4 h5 o6 => ?_)
      refine G_iadd (q := 44) cx dX2_circles_43 rfl ?_
      refine G_mmin (q := 47) cx dX2_circles_44 rfl ml_RX2_43 (Nat.le_of_ble_eq_true rfl) (Nat.le_of_ble_eq_true rfl) ?_
      refine G_mmax (q := 50) cx dX2_circles_47 rfl ml_RX2_33 (Nat.le_of_ble_eq_true rfl) (Nat.le_of_ble_eq_true rfl) ?_
      refine G_puti (q := 53) cx dX2_circles_50 rfl cf_2 fl_RX2_13 (Nat.le_of_ble_eq_true rfl) rfl rfl rfl rfl rfl h_i0 ?_
      refine G_aload_n (q := 54) cx dX2_circles_53 rfl rfl ?_
      refine G_dup (q := 55) cx dX2_circles_54 rfl rfl ?_
      refine G_geti (q := 58) cx dX2_circles_55 rfl cf_2 fl_RX2_16 (Nat.le_of_ble_eq_true rfl) rfl h_i0 ?_
      refine G_iconst (q := 59) (v := (1 : Int32)) cx dX2_circles_58 rfl (by decide) ?_
      refine G_iadd (q := 60) cx dX2_circles_59 rfl ?_
      refine G_puti (q := 63) cx dX2_circles_60 rfl cf_2 fl_RX2_16 (Nat.le_of_ble_eq_true rfl) rfl rfl rfl rfl rfl h_i0 ?_
      refine G_iinc (q := 66) (j := 1) (v := x4_1 + 1) (ls' := [(4, .int (x4_1 + 1)), (5, .int (if (gI S_1 0 a2 2) < (gI S_1 2 i0 1) then (gI S_1 2 i0 1) else (gI S_1 0 a2 2))), (0, .ref (ad 2 i0)), (1, .ref (ad 3 a1)), (2, .ref (ad 0 a2)), (3, .int a3)]) cx dX2_circles_63 rfl rfl rfl (Nat.le_of_ble_eq_true rfl) rfl ?_
      refine G_goto (t := 3) cx dX2_circles_66 (by decide) ?_
      exact G_loc [0, 2, 3, 4, 5] rfl (ih_1 (x4_1 + 1) (sI (sI S4 2 i0 1 (if (0 : Int32) < (if ((gI S_1 2 i0 1) + r3) < (if (gI S_1 0 a2 2) < (gI S_1 2 i0 1) then (gI S_1 2 i0 1) else (gI S_1 0 a2 2)) then ((gI S_1 2 i0 1) + r3) else (if (gI S_1 0 a2 2) < (gI S_1 2 i0 1) then (gI S_1 2 i0 1) else (gI S_1 0 a2 2))) then (if ((gI S_1 2 i0 1) + r3) < (if (gI S_1 0 a2 2) < (gI S_1 2 i0 1) then (gI S_1 2 i0 1) else (gI S_1 0 a2 2)) then ((gI S_1 2 i0 1) + r3) else (if (gI S_1 0 a2 2) < (gI S_1 2 i0 1) then (gI S_1 2 i0 1) else (gI S_1 0 a2 2))) else (0 : Int32))) 2 i0 2 ((gI (sI S4 2 i0 1 (if (0 : Int32) < (if ((gI S_1 2 i0 1) + r3) < (if (gI S_1 0 a2 2) < (gI S_1 2 i0 1) then (gI S_1 2 i0 1) else (gI S_1 0 a2 2)) then ((gI S_1 2 i0 1) + r3) else (if (gI S_1 0 a2 2) < (gI S_1 2 i0 1) then (gI S_1 2 i0 1) else (gI S_1 0 a2 2))) then (if ((gI S_1 2 i0 1) + r3) < (if (gI S_1 0 a2 2) < (gI S_1 2 i0 1) then (gI S_1 2 i0 1) else (gI S_1 0 a2 2)) then ((gI S_1 2 i0 1) + r3) else (if (gI S_1 0 a2 2) < (gI S_1 2 i0 1) then (gI S_1 2 i0 1) else (gI S_1 0 a2 2))) else (0 : Int32))) 2 i0 2) + (1 : Int32))))
  refine G_loc [0, 1, 2, 3, 4] rfl (lp_1 _ (fun y4_1 T_1 => ?_) 1000 (0 : Int32) S)
  exact G_vret cx rfl dX2_circles_69 trivial
def F_X3_begin (S : St) (i0 : Nat) (a1 : Int32) (a2 : Int32) (a3 : Int32) (a4 : Int32) : Option (Unit × St) :=
  bnd (F_J7_fill_53178 (sI (sI (sI (sI S 3 i0 2 a1) 3 i0 3 a2) 3 i0 4 a3) 3 i0 5 a4) i0 (0 : Int32)) (fun r1 S2 =>
  some ((), (sR S2 3 i0 6 none)))
set_option maxRecDepth 10000 in
theorem c_X3_begin (l : Launch) {D : va_G} {cy : Nat → ClassId} {ad : Nat → Nat → Nat} {k : Nat} (hJ : wJ ad (nX k)) (S : St) (i0 : Nat) (a1 : Int32) (a2 : Int32) (a3 : Int32) (a4 : Int32) (h_i0 : i0 < 12) : CT l yX3_begin cX3_begin 5 none 1 D cy ad (nX k) toU okT [.ref (ad 3 i0), .int a1, .int a2, .int a3, .int a4] S (F_X3_begin S i0 a1 a2 a3 a4) := by
  refine CT.of RX3 (by decide) rfl hJ (Nat.le_of_ble_eq_true rfl) rfl ?_
  intro p e s m below meth c cx
  unfold F_X3_begin
  refine G_aload_n (q := 1) cx dX3_begin_0 rfl rfl ?_
  refine G_iload_n (q := 2) cx dX3_begin_1 rfl rfl ?_
  refine G_puti (q := 5) cx dX3_begin_2 rfl cf_3 fl_RX3_23 (Nat.le_of_ble_eq_true rfl) rfl rfl rfl rfl rfl h_i0 ?_
  refine G_aload_n (q := 6) cx dX3_begin_5 rfl rfl ?_
  refine G_iload_n (q := 7) cx dX3_begin_6 rfl rfl ?_
  refine G_puti (q := 10) cx dX3_begin_7 rfl cf_3 fl_RX3_26 (Nat.le_of_ble_eq_true rfl) rfl rfl rfl rfl rfl h_i0 ?_
  refine G_aload_n (q := 11) cx dX3_begin_10 rfl rfl ?_
  refine G_iload_n (q := 12) cx dX3_begin_11 rfl rfl ?_
  refine G_puti (q := 15) cx dX3_begin_12 rfl cf_3 fl_RX3_29 (Nat.le_of_ble_eq_true rfl) rfl rfl rfl rfl rfl h_i0 ?_
  refine G_aload_n (q := 16) cx dX3_begin_15 rfl rfl ?_
  refine G_iload (q := 18) cx dX3_begin_16 rfl rfl ?_
  refine G_puti (q := 21) cx dX3_begin_18 rfl cf_3 fl_RX3_32 (Nat.le_of_ble_eq_true rfl) rfl rfl rfl rfl rfl h_i0 ?_
  refine G_aload_n (q := 22) cx dX3_begin_21 rfl rfl ?_
  refine G_getr (q := 25) (g := 13) (i' := i0) cx dX3_begin_22 rfl cf_3 fl_RX3_9 (Nat.le_of_ble_eq_true rfl) rfl rfl h_i0 ?_
  refine G_iconst (q := 26) (v := (0 : Int32)) cx dX3_begin_25 rfl (by decide) ?_
  refine G_callS (q := 29) (d' := 0) (As := [.ref (ad 13 i0), .int (0 : Int32)]) (rest := []) (stk := fun _ => []) cx dX3_begin_26 rfl ml_RX3_35 rfl rfl (Nat.le_of_ble_eq_true rfl) (Nat.le_of_ble_eq_true rfl) (Nat.le_of_ble_eq_true rfl) (c_J7_fill_53178 l hJ _ i0 (0 : Int32) h_i0) (fun _ => rfl) (fun r1 S2 h3 o4 => ?_)
  refine G_aload_n (q := 30) cx dX3_begin_29 rfl rfl ?_
  refine G_null (q := 31) cx dX3_begin_30 rfl ?_
  refine G_putn (q := 34) cx dX3_begin_31 rfl cf_3 fl_RX3_15 (Nat.le_of_ble_eq_true rfl) rfl rfl rfl rfl rfl h_i0 ?_
  exact G_vret cx rfl dX3_begin_34 trivial
def F_X3_copyFrom (S : St) (i0 : Nat) (a1 : Nat) : Option (Unit × St) :=
  bnd (F_X3_begin S i0 (gI S 3 a1 2) (gI S 3 a1 3) (gI S 3 a1 4) (gI S 3 a1 5)) (fun r1 S2 =>
  if 0 ≤ (0 : Int32) ∧ 0 ≤ (0 : Int32) ∧ 0 ≤ (4 : Int32) ∧ (0 : Int32).toNatClampNeg + (4 : Int32).toNatClampNeg ≤ 4 ∧ (0 : Int32).toNatClampNeg + (4 : Int32).toNatClampNeg ≤ 4 then (some ((), (cI S2 13 i0 (va_cpy (gI S2 13 a1) (gI S2 13 i0) (0 : Int32).toNatClampNeg (0 : Int32).toNatClampNeg (4 : Int32).toNatClampNeg))))
  else none)
set_option maxRecDepth 10000 in
theorem c_X3_copyFrom (l : Launch) {D : va_G} {cy : Nat → ClassId} {ad : Nat → Nat → Nat} {k : Nat} (hJ : wJ ad (nX k)) (S : St) (i0 : Nat) (a1 : Nat) (h_i0 : i0 < 12) (h_a1 : a1 < 12) : CT l yX3_copyFrom cX3_copyFrom 2 none 2 D cy ad (nX k) toU okT [.ref (ad 3 i0), .ref (ad 3 a1)] S (F_X3_copyFrom S i0 a1) := by
  refine CT.of RX3 (by decide) rfl hJ (Nat.le_of_ble_eq_true rfl) rfl ?_
  intro p e s m below meth c cx
  unfold F_X3_copyFrom
  refine G_aload_n (q := 1) cx dX3_copyFrom_0 rfl rfl ?_
  refine G_aload_n (q := 2) cx dX3_copyFrom_1 rfl rfl ?_
  refine G_geti (q := 5) cx dX3_copyFrom_2 rfl cf_3 fl_RX3_23 (Nat.le_of_ble_eq_true rfl) rfl h_a1 ?_
  refine G_aload_n (q := 6) cx dX3_copyFrom_5 rfl rfl ?_
  refine G_geti (q := 9) cx dX3_copyFrom_6 rfl cf_3 fl_RX3_26 (Nat.le_of_ble_eq_true rfl) rfl h_a1 ?_
  refine G_aload_n (q := 10) cx dX3_copyFrom_9 rfl rfl ?_
  refine G_geti (q := 13) cx dX3_copyFrom_10 rfl cf_3 fl_RX3_29 (Nat.le_of_ble_eq_true rfl) rfl h_a1 ?_
  refine G_aload_n (q := 14) cx dX3_copyFrom_13 rfl rfl ?_
  refine G_geti (q := 17) cx dX3_copyFrom_14 rfl cf_3 fl_RX3_32 (Nat.le_of_ble_eq_true rfl) rfl h_a1 ?_
  refine G_callV (q := 20) (d' := 1) (f := 3) (i := i0) (As := [.int (gI S 3 a1 2), .int (gI S 3 a1 3), .int (gI S 3 a1 4), .int (gI S 3 a1 5)]) (rest := []) (stk := fun _ => []) cx dX3_copyFrom_17 rfl cf_3 h_i0 ml_RX3_41 rfl rfl (Nat.le_of_ble_eq_true rfl) (Nat.le_of_ble_eq_true rfl) (Nat.le_of_ble_eq_true rfl) (c_X3_begin l hJ _ i0 (gI S 3 a1 2) (gI S 3 a1 3) (gI S 3 a1 4) (gI S 3 a1 5) h_i0) (fun _ => rfl) (fun r1 S2 h3 o4 => ?_)
  refine G_aload_n (q := 21) cx dX3_copyFrom_20 rfl rfl ?_
  refine G_getr (q := 24) (g := 13) (i' := a1) cx dX3_copyFrom_21 rfl cf_3 fl_RX3_9 (Nat.le_of_ble_eq_true rfl) rfl rfl h_a1 ?_
  refine G_iconst (q := 25) (v := (0 : Int32)) cx dX3_copyFrom_24 rfl (by decide) ?_
  refine G_aload_n (q := 26) cx dX3_copyFrom_25 rfl rfl ?_
  refine G_getr (q := 29) (g := 13) (i' := i0) cx dX3_copyFrom_26 rfl cf_3 fl_RX3_9 (Nat.le_of_ble_eq_true rfl) rfl rfl h_i0 ?_
  refine G_iconst (q := 30) (v := (0 : Int32)) cx dX3_copyFrom_29 rfl (by decide) ?_
  refine G_aload_n (q := 31) cx dX3_copyFrom_30 rfl rfl ?_
  refine G_getr (q := 34) (g := 13) (i' := i0) cx dX3_copyFrom_31 rfl cf_3 fl_RX3_9 (Nat.le_of_ble_eq_true rfl) rfl rfl h_i0 ?_
  refine G_alenI (q := 35) (v := (4 : Int32)) cx dX3_copyFrom_34 rfl (by decide) rfl (show Int32.ofNat 4 = (4 : Int32) by decide) h_i0 ?_
  refine G_copyI (q := 38) cx dX3_copyFrom_35 rfl cpw_RX3_45 (by decide) (by decide) rfl rfl rfl rfl h_a1 h_i0 (Nat.le_of_ble_eq_true rfl) (Nat.le_of_ble_eq_true rfl) (fun g5 => ?_)
  exact G_vret cx rfl dX3_copyFrom_38 trivial
def F_X4_add (S : St) (i0 : Nat) (a1 : Int32) (a2 : Int32) : Option (Int32 × St) :=
  if (gI S 4 i0 2) < (Int32.ofNat (kl 15 i0)) then (if 0 ≤ (gI S 4 i0 2) ∧ (gI S 4 i0 2).toNatClampNeg < kl 14 i0 then (if 0 ≤ (gI (sI S 14 i0 (gI S 4 i0 2).toNatClampNeg a1) 4 i0 2) ∧ (gI (sI S 14 i0 (gI S 4 i0 2).toNatClampNeg a1) 4 i0 2).toNatClampNeg < kl 15 i0 then (some (gI (sI (sI (sI S 14 i0 (gI S 4 i0 2).toNatClampNeg a1) 15 i0 (gI (sI S 14 i0 (gI S 4 i0 2).toNatClampNeg a1) 4 i0 2).toNatClampNeg a2) 4 i0 2 ((gI (sI (sI S 14 i0 (gI S 4 i0 2).toNatClampNeg a1) 15 i0 (gI (sI S 14 i0 (gI S 4 i0 2).toNatClampNeg a1) 4 i0 2).toNatClampNeg a2) 4 i0 2) + (1 : Int32))) 4 i0 2, (sI (sI (sI S 14 i0 (gI S 4 i0 2).toNatClampNeg a1) 15 i0 (gI (sI S 14 i0 (gI S 4 i0 2).toNatClampNeg a1) 4 i0 2).toNatClampNeg a2) 4 i0 2 ((gI (sI (sI S 14 i0 (gI S 4 i0 2).toNatClampNeg a1) 15 i0 (gI (sI S 14 i0 (gI S 4 i0 2).toNatClampNeg a1) 4 i0 2).toNatClampNeg a2) 4 i0 2) + (1 : Int32)))))
  else none)
  else none)
  else (some ((-4 : Int32), S))
set_option maxRecDepth 10000 in
theorem c_X4_add (l : Launch) {D : va_G} {cy : Nat → ClassId} {ad : Nat → Nat → Nat} {k : Nat} (hJ : wJ ad (nX k)) (S : St) (i0 : Nat) (a1 : Int32) (a2 : Int32) (h_i0 : i0 < 6) : CT l yX4_add cX4_add 3 (some .int) 0 D cy ad (nX k) toI okT [.ref (ad 4 i0), .int a1, .int a2] S (F_X4_add S i0 a1 a2) := by
  refine CT.of RX4 (by decide) rfl hJ (Nat.le_of_ble_eq_true rfl) rfl ?_
  intro p e s m below meth c cx
  unfold F_X4_add
  refine G_aload_n (q := 1) cx dX4_add_0 rfl rfl ?_
  refine G_geti (q := 4) cx dX4_add_1 rfl cf_4 fl_RX4_9 (Nat.le_of_ble_eq_true rfl) rfl h_i0 ?_
  refine G_aload_n (q := 5) cx dX4_add_4 rfl rfl ?_
  refine G_getr (q := 8) (g := 15) (i' := i0) cx dX4_add_5 rfl cf_4 fl_RX4_19 (Nat.le_of_ble_eq_true rfl) rfl rfl h_i0 ?_
  refine G_alenI (q := 9) (v := Int32.ofNat (kl 15 i0)) cx dX4_add_8 rfl (by decide) rfl rfl h_i0 ?_
  refine G_icmp_lt (q := 12) (t := 15) cx dX4_add_9 rfl (by decide) (fun c1 => ?_) (fun c1 => ?_)
  · refine G_aload_n (q := 16) cx dX4_add_15 rfl rfl ?_
    refine G_getr (q := 19) (g := 14) (i' := i0) cx dX4_add_16 rfl cf_4 fl_RX4_15 (Nat.le_of_ble_eq_true rfl) rfl rfl h_i0 ?_
    refine G_aload_n (q := 20) cx dX4_add_19 rfl rfl ?_
    refine G_geti (q := 23) cx dX4_add_20 rfl cf_4 fl_RX4_9 (Nat.le_of_ble_eq_true rfl) rfl h_i0 ?_
    refine G_iload_n (q := 24) cx dX4_add_23 rfl rfl ?_
    refine G_iast (q := 25) cx dX4_add_24 rfl (by decide) rfl rfl h_i0 (fun g2 g3 => ?_)
    refine G_aload_n (q := 26) cx dX4_add_25 rfl rfl ?_
    refine G_getr (q := 29) (g := 15) (i' := i0) cx dX4_add_26 rfl cf_4 fl_RX4_19 (Nat.le_of_ble_eq_true rfl) rfl rfl h_i0 ?_
    refine G_aload_n (q := 30) cx dX4_add_29 rfl rfl ?_
    refine G_geti (q := 33) cx dX4_add_30 rfl cf_4 fl_RX4_9 (Nat.le_of_ble_eq_true rfl) rfl h_i0 ?_
    refine G_iload_n (q := 34) cx dX4_add_33 rfl rfl ?_
    refine G_iast (q := 35) cx dX4_add_34 rfl (by decide) rfl rfl h_i0 (fun g4 g5 => ?_)
    refine G_aload_n (q := 36) cx dX4_add_35 rfl rfl ?_
    refine G_dup (q := 37) cx dX4_add_36 rfl rfl ?_
    refine G_geti (q := 40) cx dX4_add_37 rfl cf_4 fl_RX4_9 (Nat.le_of_ble_eq_true rfl) rfl h_i0 ?_
    refine G_iconst (q := 41) (v := (1 : Int32)) cx dX4_add_40 rfl (by decide) ?_
    refine G_iadd (q := 42) cx dX4_add_41 rfl ?_
    refine G_puti (q := 45) cx dX4_add_42 rfl cf_4 fl_RX4_9 (Nat.le_of_ble_eq_true rfl) rfl rfl rfl rfl rfl h_i0 ?_
    refine G_aload_n (q := 46) cx dX4_add_45 rfl rfl ?_
    refine G_geti (q := 49) cx dX4_add_46 rfl cf_4 fl_RX4_9 (Nat.le_of_ble_eq_true rfl) rfl h_i0 ?_
    exact G_iret cx rfl dX4_add_49 trivial
  · refine G_bipush (q := 14) (v := (-4 : Int32)) cx dX4_add_12 rfl (by decide) ?_
    exact G_iret cx rfl dX4_add_14 trivial
def F_X4_copyFrom (S : St) (i0 : Nat) (a1 : Nat) : Option (Unit × St) :=
  if 0 ≤ (0 : Int32) ∧ 0 ≤ (0 : Int32) ∧ 0 ≤ (gI (sI S 4 i0 2 (if (Int32.ofNat (kl 15 i0)) < (gI S 4 a1 2) then (Int32.ofNat (kl 15 i0)) else (gI S 4 a1 2))) 4 i0 2) ∧ (0 : Int32).toNatClampNeg + (gI (sI S 4 i0 2 (if (Int32.ofNat (kl 15 i0)) < (gI S 4 a1 2) then (Int32.ofNat (kl 15 i0)) else (gI S 4 a1 2))) 4 i0 2).toNatClampNeg ≤ kl 14 a1 ∧ (0 : Int32).toNatClampNeg + (gI (sI S 4 i0 2 (if (Int32.ofNat (kl 15 i0)) < (gI S 4 a1 2) then (Int32.ofNat (kl 15 i0)) else (gI S 4 a1 2))) 4 i0 2).toNatClampNeg ≤ kl 14 i0 then (if 0 ≤ (0 : Int32) ∧ 0 ≤ (0 : Int32) ∧ 0 ≤ (gI (cI (sI S 4 i0 2 (if (Int32.ofNat (kl 15 i0)) < (gI S 4 a1 2) then (Int32.ofNat (kl 15 i0)) else (gI S 4 a1 2))) 14 i0 (va_cpy (gI (sI S 4 i0 2 (if (Int32.ofNat (kl 15 i0)) < (gI S 4 a1 2) then (Int32.ofNat (kl 15 i0)) else (gI S 4 a1 2))) 14 a1) (gI (sI S 4 i0 2 (if (Int32.ofNat (kl 15 i0)) < (gI S 4 a1 2) then (Int32.ofNat (kl 15 i0)) else (gI S 4 a1 2))) 14 i0) (0 : Int32).toNatClampNeg (0 : Int32).toNatClampNeg (gI (sI S 4 i0 2 (if (Int32.ofNat (kl 15 i0)) < (gI S 4 a1 2) then (Int32.ofNat (kl 15 i0)) else (gI S 4 a1 2))) 4 i0 2).toNatClampNeg)) 4 i0 2) ∧ (0 : Int32).toNatClampNeg + (gI (cI (sI S 4 i0 2 (if (Int32.ofNat (kl 15 i0)) < (gI S 4 a1 2) then (Int32.ofNat (kl 15 i0)) else (gI S 4 a1 2))) 14 i0 (va_cpy (gI (sI S 4 i0 2 (if (Int32.ofNat (kl 15 i0)) < (gI S 4 a1 2) then (Int32.ofNat (kl 15 i0)) else (gI S 4 a1 2))) 14 a1) (gI (sI S 4 i0 2 (if (Int32.ofNat (kl 15 i0)) < (gI S 4 a1 2) then (Int32.ofNat (kl 15 i0)) else (gI S 4 a1 2))) 14 i0) (0 : Int32).toNatClampNeg (0 : Int32).toNatClampNeg (gI (sI S 4 i0 2 (if (Int32.ofNat (kl 15 i0)) < (gI S 4 a1 2) then (Int32.ofNat (kl 15 i0)) else (gI S 4 a1 2))) 4 i0 2).toNatClampNeg)) 4 i0 2).toNatClampNeg ≤ kl 15 a1 ∧ (0 : Int32).toNatClampNeg + (gI (cI (sI S 4 i0 2 (if (Int32.ofNat (kl 15 i0)) < (gI S 4 a1 2) then (Int32.ofNat (kl 15 i0)) else (gI S 4 a1 2))) 14 i0 (va_cpy (gI (sI S 4 i0 2 (if (Int32.ofNat (kl 15 i0)) < (gI S 4 a1 2) then (Int32.ofNat (kl 15 i0)) else (gI S 4 a1 2))) 14 a1) (gI (sI S 4 i0 2 (if (Int32.ofNat (kl 15 i0)) < (gI S 4 a1 2) then (Int32.ofNat (kl 15 i0)) else (gI S 4 a1 2))) 14 i0) (0 : Int32).toNatClampNeg (0 : Int32).toNatClampNeg (gI (sI S 4 i0 2 (if (Int32.ofNat (kl 15 i0)) < (gI S 4 a1 2) then (Int32.ofNat (kl 15 i0)) else (gI S 4 a1 2))) 4 i0 2).toNatClampNeg)) 4 i0 2).toNatClampNeg ≤ kl 15 i0 then (some ((), (cI (cI (sI S 4 i0 2 (if (Int32.ofNat (kl 15 i0)) < (gI S 4 a1 2) then (Int32.ofNat (kl 15 i0)) else (gI S 4 a1 2))) 14 i0 (va_cpy (gI (sI S 4 i0 2 (if (Int32.ofNat (kl 15 i0)) < (gI S 4 a1 2) then (Int32.ofNat (kl 15 i0)) else (gI S 4 a1 2))) 14 a1) (gI (sI S 4 i0 2 (if (Int32.ofNat (kl 15 i0)) < (gI S 4 a1 2) then (Int32.ofNat (kl 15 i0)) else (gI S 4 a1 2))) 14 i0) (0 : Int32).toNatClampNeg (0 : Int32).toNatClampNeg (gI (sI S 4 i0 2 (if (Int32.ofNat (kl 15 i0)) < (gI S 4 a1 2) then (Int32.ofNat (kl 15 i0)) else (gI S 4 a1 2))) 4 i0 2).toNatClampNeg)) 15 i0 (va_cpy (gI (cI (sI S 4 i0 2 (if (Int32.ofNat (kl 15 i0)) < (gI S 4 a1 2) then (Int32.ofNat (kl 15 i0)) else (gI S 4 a1 2))) 14 i0 (va_cpy (gI (sI S 4 i0 2 (if (Int32.ofNat (kl 15 i0)) < (gI S 4 a1 2) then (Int32.ofNat (kl 15 i0)) else (gI S 4 a1 2))) 14 a1) (gI (sI S 4 i0 2 (if (Int32.ofNat (kl 15 i0)) < (gI S 4 a1 2) then (Int32.ofNat (kl 15 i0)) else (gI S 4 a1 2))) 14 i0) (0 : Int32).toNatClampNeg (0 : Int32).toNatClampNeg (gI (sI S 4 i0 2 (if (Int32.ofNat (kl 15 i0)) < (gI S 4 a1 2) then (Int32.ofNat (kl 15 i0)) else (gI S 4 a1 2))) 4 i0 2).toNatClampNeg)) 15 a1) (gI (cI (sI S 4 i0 2 (if (Int32.ofNat (kl 15 i0)) < (gI S 4 a1 2) then (Int32.ofNat (kl 15 i0)) else (gI S 4 a1 2))) 14 i0 (va_cpy (gI (sI S 4 i0 2 (if (Int32.ofNat (kl 15 i0)) < (gI S 4 a1 2) then (Int32.ofNat (kl 15 i0)) else (gI S 4 a1 2))) 14 a1) (gI (sI S 4 i0 2 (if (Int32.ofNat (kl 15 i0)) < (gI S 4 a1 2) then (Int32.ofNat (kl 15 i0)) else (gI S 4 a1 2))) 14 i0) (0 : Int32).toNatClampNeg (0 : Int32).toNatClampNeg (gI (sI S 4 i0 2 (if (Int32.ofNat (kl 15 i0)) < (gI S 4 a1 2) then (Int32.ofNat (kl 15 i0)) else (gI S 4 a1 2))) 4 i0 2).toNatClampNeg)) 15 i0) (0 : Int32).toNatClampNeg (0 : Int32).toNatClampNeg (gI (cI (sI S 4 i0 2 (if (Int32.ofNat (kl 15 i0)) < (gI S 4 a1 2) then (Int32.ofNat (kl 15 i0)) else (gI S 4 a1 2))) 14 i0 (va_cpy (gI (sI S 4 i0 2 (if (Int32.ofNat (kl 15 i0)) < (gI S 4 a1 2) then (Int32.ofNat (kl 15 i0)) else (gI S 4 a1 2))) 14 a1) (gI (sI S 4 i0 2 (if (Int32.ofNat (kl 15 i0)) < (gI S 4 a1 2) then (Int32.ofNat (kl 15 i0)) else (gI S 4 a1 2))) 14 i0) (0 : Int32).toNatClampNeg (0 : Int32).toNatClampNeg (gI (sI S 4 i0 2 (if (Int32.ofNat (kl 15 i0)) < (gI S 4 a1 2) then (Int32.ofNat (kl 15 i0)) else (gI S 4 a1 2))) 4 i0 2).toNatClampNeg)) 4 i0 2).toNatClampNeg))))
  else none)
  else none
set_option maxRecDepth 10000 in
theorem c_X4_copyFrom (l : Launch) {D : va_G} {cy : Nat → ClassId} {ad : Nat → Nat → Nat} {k : Nat} (hJ : wJ ad (nX k)) (S : St) (i0 : Nat) (a1 : Nat) (h_i0 : i0 < 6) (h_a1 : a1 < 6) : CT l yX4_copyFrom cX4_copyFrom 2 none 1 D cy ad (nX k) toU okT [.ref (ad 4 i0), .ref (ad 4 a1)] S (F_X4_copyFrom S i0 a1) := by
  refine CT.of RX4 (by decide) rfl hJ (Nat.le_of_ble_eq_true rfl) rfl ?_
  intro p e s m below meth c cx
  unfold F_X4_copyFrom
  refine G_aload_n (q := 1) cx dX4_copyFrom_0 rfl rfl ?_
  refine G_aload_n (q := 2) cx dX4_copyFrom_1 rfl rfl ?_
  refine G_geti (q := 5) cx dX4_copyFrom_2 rfl cf_4 fl_RX4_9 (Nat.le_of_ble_eq_true rfl) rfl h_a1 ?_
  refine G_aload_n (q := 6) cx dX4_copyFrom_5 rfl rfl ?_
  refine G_getr (q := 9) (g := 15) (i' := i0) cx dX4_copyFrom_6 rfl cf_4 fl_RX4_19 (Nat.le_of_ble_eq_true rfl) rfl rfl h_i0 ?_
  refine G_alenI (q := 10) (v := Int32.ofNat (kl 15 i0)) cx dX4_copyFrom_9 rfl (by decide) rfl rfl h_i0 ?_
  refine G_mmin (q := 13) cx dX4_copyFrom_10 rfl ml_RX4_22 (Nat.le_of_ble_eq_true rfl) (Nat.le_of_ble_eq_true rfl) ?_
  refine G_puti (q := 16) cx dX4_copyFrom_13 rfl cf_4 fl_RX4_9 (Nat.le_of_ble_eq_true rfl) rfl rfl rfl rfl rfl h_i0 ?_
  refine G_aload_n (q := 17) cx dX4_copyFrom_16 rfl rfl ?_
  refine G_getr (q := 20) (g := 14) (i' := a1) cx dX4_copyFrom_17 rfl cf_4 fl_RX4_15 (Nat.le_of_ble_eq_true rfl) rfl rfl h_a1 ?_
  refine G_iconst (q := 21) (v := (0 : Int32)) cx dX4_copyFrom_20 rfl (by decide) ?_
  refine G_aload_n (q := 22) cx dX4_copyFrom_21 rfl rfl ?_
  refine G_getr (q := 25) (g := 14) (i' := i0) cx dX4_copyFrom_22 rfl cf_4 fl_RX4_15 (Nat.le_of_ble_eq_true rfl) rfl rfl h_i0 ?_
  refine G_iconst (q := 26) (v := (0 : Int32)) cx dX4_copyFrom_25 rfl (by decide) ?_
  refine G_aload_n (q := 27) cx dX4_copyFrom_26 rfl rfl ?_
  refine G_geti (q := 30) cx dX4_copyFrom_27 rfl cf_4 fl_RX4_9 (Nat.le_of_ble_eq_true rfl) rfl h_i0 ?_
  refine G_copyI (q := 33) cx dX4_copyFrom_30 rfl cpw_RX4_28 (by decide) (by decide) rfl rfl rfl rfl h_a1 h_i0 (Nat.le_of_ble_eq_true rfl) (Nat.le_of_ble_eq_true rfl) (fun g1 => ?_)
  refine G_aload_n (q := 34) cx dX4_copyFrom_33 rfl rfl ?_
  refine G_getr (q := 37) (g := 15) (i' := a1) cx dX4_copyFrom_34 rfl cf_4 fl_RX4_19 (Nat.le_of_ble_eq_true rfl) rfl rfl h_a1 ?_
  refine G_iconst (q := 38) (v := (0 : Int32)) cx dX4_copyFrom_37 rfl (by decide) ?_
  refine G_aload_n (q := 39) cx dX4_copyFrom_38 rfl rfl ?_
  refine G_getr (q := 42) (g := 15) (i' := i0) cx dX4_copyFrom_39 rfl cf_4 fl_RX4_19 (Nat.le_of_ble_eq_true rfl) rfl rfl h_i0 ?_
  refine G_iconst (q := 43) (v := (0 : Int32)) cx dX4_copyFrom_42 rfl (by decide) ?_
  refine G_aload_n (q := 44) cx dX4_copyFrom_43 rfl rfl ?_
  refine G_geti (q := 47) cx dX4_copyFrom_44 rfl cf_4 fl_RX4_9 (Nat.le_of_ble_eq_true rfl) rfl h_i0 ?_
  refine G_copyI (q := 50) cx dX4_copyFrom_47 rfl cpw_RX4_28 (by decide) (by decide) rfl rfl rfl rfl h_a1 h_i0 (Nat.le_of_ble_eq_true rfl) (Nat.le_of_ble_eq_true rfl) (fun g2 => ?_)
  exact G_vret cx rfl dX4_copyFrom_50 trivial
def L_X5_copyFrom_10 (i0 : Nat) (a1 : Nat) (K_1 : Int32 → St → Option (Unit × St)) : Nat → Int32 → St → Option (Unit × St)
  | 0, _, _ => none
  | n + 1, x2_1, S_1 =>
    if (gI S_1 5 i0 5) ≤ x2_1 then (K_1 x2_1 S_1)
    else (if 0 ≤ x2_1 ∧ x2_1.toNatClampNeg < 6 then (if 0 ≤ x2_1 ∧ x2_1.toNatClampNeg < 6 then (bnd (F_X3_copyFrom S_1 (6 * i0 + x2_1.toNatClampNeg) (6 * a1 + x2_1.toNatClampNeg)) (fun r26 S27 =>
    L_X5_copyFrom_10 i0 a1 K_1 n (x2_1 + 1) S27))
    else none)
    else none)
def F_X5_copyFrom (S : St) (i0 : Nat) (a1 : Nat) : Option (Unit × St) :=
  L_X5_copyFrom_10 i0 a1 
  (fun y2_1 T_1 => bnd (F_X2_copyFrom T_1 i0 a1) (fun r2 S3 =>
  bnd (F_X4_copyFrom S3 (3 * i0) (3 * a1)) (fun r6 S7 =>
  bnd (F_X4_copyFrom S7 (3 * i0 + 1) (3 * a1 + 1)) (fun r10 S11 =>
  bnd (F_X4_copyFrom S11 (3 * i0 + 2) (3 * a1 + 2)) (fun r14 S15 =>
  (gR (sI (sI S15 5 i0 6 (gI S15 5 a1 6)) 5 i0 7 (gI (sI S15 5 i0 6 (gI S15 5 a1 6)) 5 a1 7)) 5 a1 8).elim (some ((), (sR (sI (sI S15 5 i0 6 (gI S15 5 a1 6)) 5 i0 7 (gI (sI S15 5 i0 6 (gI S15 5 a1 6)) 5 a1 7)) 5 i0 8 none)))
  (fun p18 => some ((), (sR (sI (sI S15 5 i0 6 (gI S15 5 a1 6)) 5 i0 7 (gI (sI S15 5 i0 6 (gI S15 5 a1 6)) 5 a1 7)) 5 i0 8 (some p18))))))))) 1000 (0 : Int32) (sI S 5 i0 5 (gI S 5 a1 5))
set_option maxRecDepth 10000 in
theorem c_X5_copyFrom (l : Launch) {D : va_G} {cy : Nat → ClassId} {ad : Nat → Nat → Nat} {k : Nat} (hJ : wJ ad (nX k)) (S : St) (i0 : Nat) (a1 : Nat) (h_i0 : i0 < 2) (h_a1 : a1 < 2) : CT l yX5_copyFrom cX5_copyFrom 3 none 3 D cy ad (nX k) toU okT [.ref (ad 5 i0), .ref (ad 5 a1)] S (F_X5_copyFrom S i0 a1) := by
  refine CT.of RX5 (by decide) rfl hJ (Nat.le_of_ble_eq_true rfl) rfl ?_
  intro p e s m below meth c cx
  unfold F_X5_copyFrom
  refine G_aload_n (q := 1) cx dX5_copyFrom_0 rfl rfl ?_
  refine G_aload_n (q := 2) cx dX5_copyFrom_1 rfl rfl ?_
  refine G_geti (q := 5) cx dX5_copyFrom_2 rfl cf_5 fl_RX5_39 (Nat.le_of_ble_eq_true rfl) rfl h_a1 ?_
  refine G_puti (q := 8) cx dX5_copyFrom_5 rfl cf_5 fl_RX5_39 (Nat.le_of_ble_eq_true rfl) rfl rfl rfl rfl rfl h_i0 ?_
  refine G_iconst (q := 9) (v := (0 : Int32)) cx dX5_copyFrom_8 rfl (by decide) ?_
  refine G_istore_n (q := 10) (ls' := [(2, .int (0 : Int32)), (0, .ref (ad 5 i0)), (1, .ref (ad 5 a1))]) cx dX5_copyFrom_9 rfl rfl (Nat.le_of_ble_eq_true rfl) rfl ?_
  have lp_1 : ∀ (K_1 : Int32 → St → Option (Unit × St)) (hK_1 : ∀ (y2_1 : Int32) (T_1 : St), TG p l e 3 s m ([.ref (ad 5 i0), .ref (ad 5 a1)] : List Value).toArray below meth c D cy ad (nX k) toU okT T_1 39 [(2, .int y2_1), (0, .ref (ad 5 i0)), (1, .ref (ad 5 a1))] [] (K_1 y2_1 T_1)), ∀ (n_1 : Nat) (x2_1 : Int32) (S_1 : St), TG p l e 3 s m ([.ref (ad 5 i0), .ref (ad 5 a1)] : List Value).toArray below meth c D cy ad (nX k) toU okT S_1 10 [(2, .int x2_1), (0, .ref (ad 5 i0)), (1, .ref (ad 5 a1))] [] (L_X5_copyFrom_10 i0 a1 K_1 n_1 x2_1 S_1) := by
    intro K_1 hK_1 n_1
    induction n_1 with
    | zero => intros; exact G_none
    | succ n_1 ih_1 =>
      intro x2_1 S_1
      rw [L_X5_copyFrom_10.eq_2]
      refine G_iload_n (q := 11) cx dX5_copyFrom_10 rfl rfl ?_
      refine G_aload_n (q := 12) cx dX5_copyFrom_11 rfl rfl ?_
      refine G_geti (q := 15) cx dX5_copyFrom_12 rfl cf_5 fl_RX5_39 (Nat.le_of_ble_eq_true rfl) rfl h_i0 ?_
      refine G_icmp_ge (q := 18) (t := 39) cx dX5_copyFrom_15 rfl (by decide) (fun c21 => ?_) (fun c21 => ?_)
      · exact G_loc [0, 1, 2] rfl (hK_1 x2_1 S_1)
      refine G_aload_n (q := 19) cx dX5_copyFrom_18 rfl rfl ?_
      refine G_getr (q := 22) (g := 12) (i' := i0) cx dX5_copyFrom_19 rfl cf_5 fl_RX5_11 (Nat.le_of_ble_eq_true rfl) rfl rfl h_i0 ?_
      refine G_iload_n (q := 23) cx dX5_copyFrom_22 rfl rfl ?_
      refine G_aaldL (q := 24) cx dX5_copyFrom_23 rfl h_i0 (fun g22 g23 => ?_)
      refine G_aload_n (q := 25) cx dX5_copyFrom_24 rfl rfl ?_
      refine G_getr (q := 28) (g := 12) (i' := a1) cx dX5_copyFrom_25 rfl cf_5 fl_RX5_11 (Nat.le_of_ble_eq_true rfl) rfl rfl h_a1 ?_
      refine G_iload_n (q := 29) cx dX5_copyFrom_28 rfl rfl ?_
      refine G_aaldL (q := 30) cx dX5_copyFrom_29 rfl h_a1 (fun g24 g25 => ?_)
      refine G_callV (q := 33) (d' := 2) (f := 3) (i := (6 * i0 + x2_1.toNatClampNeg)) (As := [.ref (ad 3 (6 * a1 + x2_1.toNatClampNeg))]) (rest := []) (stk := fun _ => []) cx dX5_copyFrom_30 rfl cf_3 (by show 6 * i0 + x2_1.toNatClampNeg < 12; omega) ml_RX5_54 rfl rfl (Nat.le_of_ble_eq_true rfl) (Nat.le_of_ble_eq_true rfl) (Nat.le_of_ble_eq_true rfl) (c_X3_copyFrom l hJ _ (6 * i0 + x2_1.toNatClampNeg) (6 * a1 + x2_1.toNatClampNeg) (by show 6 * i0 + x2_1.toNatClampNeg < 12; omega) (by show 6 * a1 + x2_1.toNatClampNeg < 12; omega)) (fun _ => rfl) (fun r26 S27 h28 o29 => ?_)
      refine G_iinc (q := 36) (j := 0) (v := x2_1 + 1) (ls' := [(2, .int (x2_1 + 1)), (0, .ref (ad 5 i0)), (1, .ref (ad 5 a1))]) cx dX5_copyFrom_33 rfl rfl rfl (Nat.le_of_ble_eq_true rfl) rfl ?_
      refine G_goto (t := 10) cx dX5_copyFrom_36 (by decide) ?_
      exact G_loc [0, 1, 2] rfl (ih_1 (x2_1 + 1) S27)
  refine G_loc [0, 1, 2] rfl (lp_1 _ (fun y2_1 T_1 => ?_) 1000 (0 : Int32) (sI S 5 i0 5 (gI S 5 a1 5)))
  refine G_aload_n (q := 40) cx dX5_copyFrom_39 rfl rfl ?_
  refine G_getr (q := 43) (g := 2) (i' := i0) cx dX5_copyFrom_40 rfl cf_5 fl_RX5_20 (Nat.le_of_ble_eq_true rfl) rfl rfl h_i0 ?_
  refine G_aload_n (q := 44) cx dX5_copyFrom_43 rfl rfl ?_
  refine G_getr (q := 47) (g := 2) (i' := a1) cx dX5_copyFrom_44 rfl cf_5 fl_RX5_20 (Nat.le_of_ble_eq_true rfl) rfl rfl h_a1 ?_
  refine G_callV (q := 50) (d' := 0) (f := 2) (i := i0) (As := [.ref (ad 2 a1)]) (rest := []) (stk := fun _ => []) cx dX5_copyFrom_47 rfl cf_2 (by show i0 < 3; omega) ml_RX5_58 rfl rfl (Nat.le_of_ble_eq_true rfl) (Nat.le_of_ble_eq_true rfl) (Nat.le_of_ble_eq_true rfl) (c_X2_copyFrom l hJ _ i0 a1 (by show i0 < 3; omega) (by show a1 < 3; omega)) (fun _ => rfl) (fun r2 S3 h4 o5 => ?_)
  refine G_aload_n (q := 51) cx dX5_copyFrom_50 rfl rfl ?_
  refine G_getr (q := 54) (g := 4) (i' := 3 * i0) cx dX5_copyFrom_51 rfl cf_5 fl_RX5_29 (Nat.le_of_ble_eq_true rfl) rfl rfl h_i0 ?_
  refine G_aload_n (q := 55) cx dX5_copyFrom_54 rfl rfl ?_
  refine G_getr (q := 58) (g := 4) (i' := 3 * a1) cx dX5_copyFrom_55 rfl cf_5 fl_RX5_29 (Nat.le_of_ble_eq_true rfl) rfl rfl h_a1 ?_
  refine G_callV (q := 61) (d' := 1) (f := 4) (i := (3 * i0)) (As := [.ref (ad 4 (3 * a1))]) (rest := []) (stk := fun _ => []) cx dX5_copyFrom_58 rfl cf_4 (by show 3 * i0 < 6; omega) ml_RX5_61 rfl rfl (Nat.le_of_ble_eq_true rfl) (Nat.le_of_ble_eq_true rfl) (Nat.le_of_ble_eq_true rfl) (c_X4_copyFrom l hJ _ (3 * i0) (3 * a1) (by show 3 * i0 < 6; omega) (by show 3 * a1 < 6; omega)) (fun _ => rfl) (fun r6 S7 h8 o9 => ?_)
  refine G_aload_n (q := 62) cx dX5_copyFrom_61 rfl rfl ?_
  refine G_getr (q := 65) (g := 4) (i' := 3 * i0 + 1) cx dX5_copyFrom_62 rfl cf_5 fl_RX5_33 (Nat.le_of_ble_eq_true rfl) rfl rfl h_i0 ?_
  refine G_aload_n (q := 66) cx dX5_copyFrom_65 rfl rfl ?_
  refine G_getr (q := 69) (g := 4) (i' := 3 * a1 + 1) cx dX5_copyFrom_66 rfl cf_5 fl_RX5_33 (Nat.le_of_ble_eq_true rfl) rfl rfl h_a1 ?_
  refine G_callV (q := 72) (d' := 1) (f := 4) (i := (3 * i0 + 1)) (As := [.ref (ad 4 (3 * a1 + 1))]) (rest := []) (stk := fun _ => []) cx dX5_copyFrom_69 rfl cf_4 (by show 3 * i0 + 1 < 6; omega) ml_RX5_61 rfl rfl (Nat.le_of_ble_eq_true rfl) (Nat.le_of_ble_eq_true rfl) (Nat.le_of_ble_eq_true rfl) (c_X4_copyFrom l hJ _ (3 * i0 + 1) (3 * a1 + 1) (by show 3 * i0 + 1 < 6; omega) (by show 3 * a1 + 1 < 6; omega)) (fun _ => rfl) (fun r10 S11 h12 o13 => ?_)
  refine G_aload_n (q := 73) cx dX5_copyFrom_72 rfl rfl ?_
  refine G_getr (q := 76) (g := 4) (i' := 3 * i0 + 2) cx dX5_copyFrom_73 rfl cf_5 fl_RX5_36 (Nat.le_of_ble_eq_true rfl) rfl rfl h_i0 ?_
  refine G_aload_n (q := 77) cx dX5_copyFrom_76 rfl rfl ?_
  refine G_getr (q := 80) (g := 4) (i' := 3 * a1 + 2) cx dX5_copyFrom_77 rfl cf_5 fl_RX5_36 (Nat.le_of_ble_eq_true rfl) rfl rfl h_a1 ?_
  refine G_callV (q := 83) (d' := 1) (f := 4) (i := (3 * i0 + 2)) (As := [.ref (ad 4 (3 * a1 + 2))]) (rest := []) (stk := fun _ => []) cx dX5_copyFrom_80 rfl cf_4 (by show 3 * i0 + 2 < 6; omega) ml_RX5_61 rfl rfl (Nat.le_of_ble_eq_true rfl) (Nat.le_of_ble_eq_true rfl) (Nat.le_of_ble_eq_true rfl) (c_X4_copyFrom l hJ _ (3 * i0 + 2) (3 * a1 + 2) (by show 3 * i0 + 2 < 6; omega) (by show 3 * a1 + 2 < 6; omega)) (fun _ => rfl) (fun r14 S15 h16 o17 => ?_)
  refine G_aload_n (q := 84) cx dX5_copyFrom_83 rfl rfl ?_
  refine G_aload_n (q := 85) cx dX5_copyFrom_84 rfl rfl ?_
  refine G_geti (q := 88) cx dX5_copyFrom_85 rfl cf_5 fl_RX5_43 (Nat.le_of_ble_eq_true rfl) rfl h_a1 ?_
  refine G_puti (q := 91) cx dX5_copyFrom_88 rfl cf_5 fl_RX5_43 (Nat.le_of_ble_eq_true rfl) rfl rfl rfl rfl rfl h_i0 ?_
  refine G_aload_n (q := 92) cx dX5_copyFrom_91 rfl rfl ?_
  refine G_aload_n (q := 93) cx dX5_copyFrom_92 rfl rfl ?_
  refine G_geti (q := 96) cx dX5_copyFrom_93 rfl cf_5 fl_RX5_46 (Nat.le_of_ble_eq_true rfl) rfl h_a1 ?_
  refine G_puti (q := 99) cx dX5_copyFrom_96 rfl cf_5 fl_RX5_46 (Nat.le_of_ble_eq_true rfl) rfl rfl rfl rfl rfl h_i0 ?_
  refine G_aload_n (q := 100) cx dX5_copyFrom_99 rfl rfl ?_
  refine G_aload_n (q := 101) cx dX5_copyFrom_100 rfl rfl ?_
  refine G_geta (q := 104) cx dX5_copyFrom_101 rfl cf_5 fl_RX5_49 (Nat.le_of_ble_eq_true rfl) rfl h_a1 (fun e19 => ?_) (fun p18 e20 h_p18 => ?_)
  · refine G_putn (q := 107) cx dX5_copyFrom_104 rfl cf_5 fl_RX5_49 (Nat.le_of_ble_eq_true rfl) rfl rfl rfl rfl rfl h_i0 ?_
    exact G_vret cx rfl dX5_copyFrom_107 trivial
  · refine G_puta (q := 107) cx dX5_copyFrom_104 rfl cf_5 fl_RX5_49 (Nat.le_of_ble_eq_true rfl) rfl rfl rfl (fun _ => rfl) (fun _ => rfl) h_p18 h_i0 ?_
    exact G_vret cx rfl dX5_copyFrom_107 trivial
def F_X6_holds (S : St) (i0 : Nat) : Option (Int32 × St) :=
  if (gI S 6 i0 1) = (-1 : Int32) then (some ((0 : Int32), S))
  else (some ((1 : Int32), S))
set_option maxRecDepth 10000 in
theorem c_X6_holds (l : Launch) {D : va_G} {cy : Nat → ClassId} {ad : Nat → Nat → Nat} {k : Nat} (hJ : wJ ad (nX k)) (S : St) (i0 : Nat) (h_i0 : i0 < 6) : CT l yX6_holds cX6_holds 1 (some .boolean) 0 D cy ad (nX k) toI okZ [.ref (ad 6 i0)] S (F_X6_holds S i0) := by
  refine CT.of RX6 (by decide) rfl hJ (Nat.le_of_ble_eq_true rfl) rfl ?_
  intro p e s m below meth c cx
  unfold F_X6_holds
  refine G_aload_n (q := 1) cx dX6_holds_0 rfl rfl ?_
  refine G_geti (q := 4) cx dX6_holds_1 rfl cf_6 fl_RX6_15 (Nat.le_of_ble_eq_true rfl) rfl h_i0 ?_
  refine G_iconst (q := 5) (v := (-1 : Int32)) cx dX6_holds_4 rfl (by decide) ?_
  refine G_icmp_eq (q := 8) (t := 12) cx dX6_holds_5 rfl (by decide) (fun c1 => ?_) (fun c1 => ?_)
  · refine G_iconst (q := 13) (v := (0 : Int32)) cx dX6_holds_12 rfl (by decide) ?_
    exact G_zret (ty := .boolean) cx rfl dX6_holds_13 rfl rfl
  · refine G_iconst (q := 9) (v := (1 : Int32)) cx dX6_holds_8 rfl (by decide) ?_
    refine G_goto (t := 13) cx dX6_holds_9 (by decide) ?_
    exact G_zret (ty := .boolean) cx rfl dX6_holds_13 rfl rfl
def F_X6_begin (S : St) (i0 : Nat) (a1 : Int32) (a2 : Int32) : Option (Unit × St) :=
  bnd (F_J7_fill_d0a16 (sI (sI S 6 i0 1 a1) 6 i0 2 a2) i0 (0 : Int64)) (fun r1 S2 =>
  some ((), S2))
set_option maxRecDepth 10000 in
theorem c_X6_begin (l : Launch) {D : va_G} {cy : Nat → ClassId} {ad : Nat → Nat → Nat} {k : Nat} (hJ : wJ ad (nX k)) (S : St) (i0 : Nat) (a1 : Int32) (a2 : Int32) (h_i0 : i0 < 6) : CT l yX6_begin cX6_begin 3 none 1 D cy ad (nX k) toU okT [.ref (ad 6 i0), .int a1, .int a2] S (F_X6_begin S i0 a1 a2) := by
  refine CT.of RX6 (by decide) rfl hJ (Nat.le_of_ble_eq_true rfl) rfl ?_
  intro p e s m below meth c cx
  unfold F_X6_begin
  refine G_aload_n (q := 1) cx dX6_begin_0 rfl rfl ?_
  refine G_iload_n (q := 2) cx dX6_begin_1 rfl rfl ?_
  refine G_puti (q := 5) cx dX6_begin_2 rfl cf_6 fl_RX6_15 (Nat.le_of_ble_eq_true rfl) rfl rfl rfl rfl rfl h_i0 ?_
  refine G_aload_n (q := 6) cx dX6_begin_5 rfl rfl ?_
  refine G_iload_n (q := 7) cx dX6_begin_6 rfl rfl ?_
  refine G_puti (q := 10) cx dX6_begin_7 rfl cf_6 fl_RX6_19 (Nat.le_of_ble_eq_true rfl) rfl rfl rfl rfl rfl h_i0 ?_
  refine G_aload_n (q := 11) cx dX6_begin_10 rfl rfl ?_
  refine G_getr (q := 14) (g := 18) (i' := i0) cx dX6_begin_11 rfl cf_6 fl_RX6_9 (Nat.le_of_ble_eq_true rfl) rfl rfl h_i0 ?_
  refine G_lconst (q := 15) (v := (0 : Int64)) cx dX6_begin_14 rfl (by decide) ?_
  refine G_callS (q := 18) (d' := 0) (As := [.ref (ad 18 i0), .long (0 : Int64)]) (rest := []) (stk := fun _ => []) cx dX6_begin_15 rfl ml_RX6_22 rfl rfl (Nat.le_of_ble_eq_true rfl) (Nat.le_of_ble_eq_true rfl) (Nat.le_of_ble_eq_true rfl) (c_J7_fill_d0a16 l hJ _ i0 (0 : Int64) h_i0) (fun _ => rfl) (fun r1 S2 h3 o4 => ?_)
  exact G_vret cx rfl dX6_begin_18 trivial
