def L_X7_odds_31 (a1 : Int32) (a2 : Int32) (K_11 : Int32 → Int32 → St → Option (Int64 × St)) : Nat → Int32 → Int32 → St → Option (Int64 × St)
  | 0, _, _, _ => none
  | n + 1, x4_11, x5_11, S_11 =>
    if (gI S_11 5 0 5) ≤ x5_11 then (K_11 x4_11 x5_11 S_11)
    else (bnd (F_X7_heightBehind S_11 x5_11 a2) (fun r17 S18 =>
    if r17 < a1 then (L_X7_odds_31 a1 a2 K_11 n x4_11 (x5_11 + 1) S18)
    else (L_X7_odds_31 a1 a2 K_11 n (x4_11 + 1) (x5_11 + 1) S18)))
def F_X7_odds (S : St) (a1 : Int32) (a2 : Int32) (a3 : Int32) : Option (Int64 × St) :=
  bnd (F_X7_isWithin S a1 (0 : Int32) (400 : Int32)) (fun r1 S2 =>
  if r1 = 0 then (some ((-9223372036854775808 : Int64), S2))
  else (bnd (F_X7_isWithin S2 a2 (0 : Int32) (60 : Int32)) (fun r6 S7 =>
  if r6 = 0 then (some ((-9223372036854775808 : Int64), S7))
  else (L_X7_odds_31 a1 a2 
  (fun y4_11 y5_11 T_11 => bnd (F_X7_partOfFraction T_11 y4_11 (gI T_11 5 0 5) a3) (fun r12 S13 =>
  some (r12, S13))) 1000 (0 : Int32) (0 : Int32) S7))))
set_option maxRecDepth 10000 in
theorem c_X7_odds (l : Launch) {D : va_G} {cy : Nat → ClassId} {ad : Nat → Nat → Nat} {k : Nat} (hJ : wJ ad (nX k)) (S : St) (a1 : Int32) (a2 : Int32) (a3 : Int32) : CT l yX7_odds cX7_odds 6 (some .long) 6 D cy ad (nX k) toJ okT [.ref (ad 7 0), .int a1, .int a2, .int a3] S (F_X7_odds S a1 a2 a3) := by
  refine CT.of RX7 (by decide) rfl hJ (Nat.le_of_ble_eq_true rfl) rfl ?_
  intro p e s m below meth c cx
  unfold F_X7_odds
  refine G_iload_n (q := 1) cx dX7_odds_0 rfl rfl ?_
  refine G_iconst (q := 2) (v := (0 : Int32)) cx dX7_odds_1 rfl (by decide) ?_
  refine G_sipush (q := 5) (v := (400 : Int32)) cx dX7_odds_2 rfl (by decide) ?_
  refine G_callS (q := 8) (d' := 0) (As := [.int a1, .int (0 : Int32), .int (400 : Int32)]) (rest := []) (stk := fun r1 => [.int r1]) cx dX7_odds_5 rfl ml_RX7_74 rfl rfl (Nat.le_of_ble_eq_true rfl) (Nat.le_of_ble_eq_true rfl) (Nat.le_of_ble_eq_true rfl) (c_X7_isWithin l hJ _ a1 (0 : Int32) (400 : Int32)) (fun _ => rfl) (fun r1 S2 h3 o4 => ?_)
  refine G_if_eq (q := 11) (t := 21) cx dX7_odds_8 rfl (by decide) (fun c5 => ?_) (fun c5 => ?_)
  · refine G_ldc2_w (q := 24) (v := (-9223372036854775808 : Int64)) cx dX7_odds_21 rfl (inG (inT 650 (by decide +kernel)) rfl) ?_
    exact G_lret cx rfl dX7_odds_24 trivial
  refine G_iload_n (q := 12) cx dX7_odds_11 rfl rfl ?_
  refine G_iconst (q := 13) (v := (0 : Int32)) cx dX7_odds_12 rfl (by decide) ?_
  refine G_bipush (q := 15) (v := (60 : Int32)) cx dX7_odds_13 rfl (by decide) ?_
  refine G_callS (q := 18) (d' := 0) (As := [.int a2, .int (0 : Int32), .int (60 : Int32)]) (rest := []) (stk := fun r6 => [.int r6]) cx dX7_odds_15 rfl ml_RX7_74 rfl rfl (Nat.le_of_ble_eq_true rfl) (Nat.le_of_ble_eq_true rfl) (Nat.le_of_ble_eq_true rfl) (c_X7_isWithin l hJ _ a2 (0 : Int32) (60 : Int32)) (fun _ => rfl) (fun r6 S7 h8 o9 => ?_)
  refine G_if_ne (q := 21) (t := 25) cx dX7_odds_18 rfl (by decide) (fun c10 => ?_) (fun c10 => ?_)
  · refine G_iconst (q := 26) (v := (0 : Int32)) cx dX7_odds_25 rfl (by decide) ?_
    refine G_istore (q := 28) (ls' := [(4, .int (0 : Int32)), (0, .ref (ad 7 0)), (1, .int a1), (2, .int a2), (3, .int a3)]) cx dX7_odds_26 rfl (Nat.le_of_ble_eq_true rfl) rfl ?_
    refine G_iconst (q := 29) (v := (0 : Int32)) cx dX7_odds_28 rfl (by decide) ?_
    refine G_istore (q := 31) (ls' := [(5, .int (0 : Int32)), (4, .int (0 : Int32)), (0, .ref (ad 7 0)), (1, .int a1), (2, .int a2), (3, .int a3)]) cx dX7_odds_29 rfl (Nat.le_of_ble_eq_true rfl) rfl ?_
    have lp_11 : ∀ (K_11 : Int32 → Int32 → St → Option (Int64 × St)) (hK_11 : ∀ (y4_11 : Int32) (y5_11 : Int32) (T_11 : St), TG p l e 6 s m ([.ref (ad 7 0), .int a1, .int a2, .int a3] : List Value).toArray below meth c D cy ad (nX k) toJ okT T_11 63 [(4, .int y4_11), (5, .int y5_11), (0, .ref (ad 7 0)), (1, .int a1), (2, .int a2), (3, .int a3)] [] (K_11 y4_11 y5_11 T_11)), ∀ (n_11 : Nat) (x4_11 : Int32) (x5_11 : Int32) (S_11 : St), TG p l e 6 s m ([.ref (ad 7 0), .int a1, .int a2, .int a3] : List Value).toArray below meth c D cy ad (nX k) toJ okT S_11 31 [(4, .int x4_11), (5, .int x5_11), (0, .ref (ad 7 0)), (1, .int a1), (2, .int a2), (3, .int a3)] [] (L_X7_odds_31 a1 a2 K_11 n_11 x4_11 x5_11 S_11) := by
      intro K_11 hK_11 n_11
      induction n_11 with
      | zero => intros; exact G_none
      | succ n_11 ih_11 =>
        intro x4_11 x5_11 S_11
        rw [L_X7_odds_31.eq_2]
        refine G_iload (q := 33) cx dX7_odds_31 rfl rfl ?_
        refine G_aload_n (q := 34) cx dX7_odds_33 rfl rfl ?_
        refine G_getr (q := 37) (g := 5) (i' := 0) cx dX7_odds_34 rfl cf_7 fl_RX7_23 (Nat.le_of_ble_eq_true rfl) rfl rfl (Nat.le_of_ble_eq_true rfl) ?_
        refine G_geti (q := 40) cx dX7_odds_37 rfl cf_5 fl_RX7_81 (Nat.le_of_ble_eq_true rfl) rfl (Nat.le_of_ble_eq_true rfl) ?_
        refine G_icmp_ge (q := 43) (t := 63) cx dX7_odds_40 rfl (by decide) (fun c16 => ?_) (fun c16 => ?_)
        · exact G_loc [0, 1, 2, 3, 4, 5] rfl (hK_11 x4_11 x5_11 S_11)
        refine G_aload_n (q := 44) cx dX7_odds_43 rfl rfl ?_
        refine G_iload (q := 46) cx dX7_odds_44 rfl rfl ?_
        refine G_iload_n (q := 47) cx dX7_odds_46 rfl rfl ?_
        refine G_callV (q := 50) (d' := 5) (f := 7) (i := 0) (As := [.int x5_11, .int a2]) (rest := []) (stk := fun r17 => [.int r17]) cx dX7_odds_47 rfl cf_7 (Nat.le_of_ble_eq_true rfl) ml_RX7_173 rfl rfl (Nat.le_of_ble_eq_true rfl) (Nat.le_of_ble_eq_true rfl) (Nat.le_of_ble_eq_true rfl) (c_X7_heightBehind l hJ _ x5_11 a2) (fun _ => rfl) (fun r17 S18 h19 o20 => ?_)
        refine G_iload_n (q := 51) cx dX7_odds_50 rfl rfl ?_
        refine G_icmp_lt (q := 54) (t := 57) cx dX7_odds_51 rfl (by decide) (fun c21 => ?_) (fun c21 => ?_)
        · refine G_iinc (q := 60) (j := 1) (v := x5_11 + 1) (ls' := [(5, .int (x5_11 + 1)), (4, .int x4_11), (0, .ref (ad 7 0)), (1, .int a1), (2, .int a2), (3, .int a3)]) cx dX7_odds_57 rfl rfl rfl (Nat.le_of_ble_eq_true rfl) rfl ?_
          refine G_goto (t := 31) cx dX7_odds_60 (by decide) ?_
          exact G_loc [1, 0, 2, 3, 4, 5] rfl (ih_11 x4_11 (x5_11 + 1) S18)
        refine G_iinc (q := 57) (j := 0) (v := x4_11 + 1) (ls' := [(4, .int (x4_11 + 1)), (5, .int x5_11), (0, .ref (ad 7 0)), (1, .int a1), (2, .int a2), (3, .int a3)]) cx dX7_odds_54 rfl rfl rfl (Nat.le_of_ble_eq_true rfl) rfl ?_
        refine G_iinc (q := 60) (j := 1) (v := x5_11 + 1) (ls' := [(5, .int (x5_11 + 1)), (4, .int (x4_11 + 1)), (0, .ref (ad 7 0)), (1, .int a1), (2, .int a2), (3, .int a3)]) cx dX7_odds_57 rfl rfl rfl (Nat.le_of_ble_eq_true rfl) rfl ?_
        refine G_goto (t := 31) cx dX7_odds_60 (by decide) ?_
        exact G_loc [1, 0, 2, 3, 4, 5] rfl (ih_11 (x4_11 + 1) (x5_11 + 1) S18)
    refine G_loc [1, 0, 2, 3, 4, 5] rfl (lp_11 _ (fun y4_11 y5_11 T_11 => ?_) 1000 (0 : Int32) (0 : Int32) S7)
    refine G_iload (q := 65) cx dX7_odds_63 rfl rfl ?_
    refine G_aload_n (q := 66) cx dX7_odds_65 rfl rfl ?_
    refine G_getr (q := 69) (g := 5) (i' := 0) cx dX7_odds_66 rfl cf_7 fl_RX7_23 (Nat.le_of_ble_eq_true rfl) rfl rfl (Nat.le_of_ble_eq_true rfl) ?_
    refine G_geti (q := 72) cx dX7_odds_69 rfl cf_5 fl_RX7_81 (Nat.le_of_ble_eq_true rfl) rfl (Nat.le_of_ble_eq_true rfl) ?_
    refine G_iload_n (q := 73) cx dX7_odds_72 rfl rfl ?_
    refine G_callS (q := 76) (d' := 1) (As := [.int y4_11, .int (gI T_11 5 0 5), .int a3]) (rest := []) (stk := fun r12 => [.long r12]) cx dX7_odds_73 rfl ml_RX7_244 rfl rfl (Nat.le_of_ble_eq_true rfl) (Nat.le_of_ble_eq_true rfl) (Nat.le_of_ble_eq_true rfl) (c_X7_partOfFraction l hJ _ y4_11 (gI T_11 5 0 5) a3) (fun _ => rfl) (fun r12 S13 h14 o15 => ?_)
    exact G_lret cx rfl dX7_odds_76 trivial
  · refine G_ldc2_w (q := 24) (v := (-9223372036854775808 : Int64)) cx dX7_odds_21 rfl (inG (inT 650 (by decide +kernel)) rfl) ?_
    exact G_lret cx rfl dX7_odds_24 trivial
def L_X7_mean_19 (a1 : Int32) (K_6 : Int32 → Int32 → St → Option (Int64 × St)) : Nat → Int32 → Int32 → St → Option (Int64 × St)
  | 0, _, _, _ => none
  | n + 1, x3_6, x4_6, S_6 =>
    if (gI S_6 5 0 5) ≤ x4_6 then (K_6 x3_6 x4_6 S_6)
    else (bnd (F_X7_heightBehind S_6 x4_6 a1) (fun r12 S13 =>
    L_X7_mean_19 a1 K_6 n (x3_6 + r12) (x4_6 + 1) S13))
def F_X7_mean (S : St) (a1 : Int32) (a2 : Int32) : Option (Int64 × St) :=
  bnd (F_X7_isWithin S a1 (0 : Int32) (60 : Int32)) (fun r1 S2 =>
  if r1 = 0 then (some ((-9223372036854775808 : Int64), S2))
  else (L_X7_mean_19 a1 
  (fun y3_6 y4_6 T_6 => bnd (F_X7_partOfFraction T_6 y3_6 (gI T_6 5 0 5) a2) (fun r7 S8 =>
  some (r7, S8))) 1000 (0 : Int32) (0 : Int32) S2))
set_option maxRecDepth 10000 in
theorem c_X7_mean (l : Launch) {D : va_G} {cy : Nat → ClassId} {ad : Nat → Nat → Nat} {k : Nat} (hJ : wJ ad (nX k)) (S : St) (a1 : Int32) (a2 : Int32) : CT l yX7_mean cX7_mean 5 (some .long) 6 D cy ad (nX k) toJ okT [.ref (ad 7 0), .int a1, .int a2] S (F_X7_mean S a1 a2) := by
  refine CT.of RX7 (by decide) rfl hJ (Nat.le_of_ble_eq_true rfl) rfl ?_
  intro p e s m below meth c cx
  unfold F_X7_mean
  refine G_iload_n (q := 1) cx dX7_mean_0 rfl rfl ?_
  refine G_iconst (q := 2) (v := (0 : Int32)) cx dX7_mean_1 rfl (by decide) ?_
  refine G_bipush (q := 4) (v := (60 : Int32)) cx dX7_mean_2 rfl (by decide) ?_
  refine G_callS (q := 7) (d' := 0) (As := [.int a1, .int (0 : Int32), .int (60 : Int32)]) (rest := []) (stk := fun r1 => [.int r1]) cx dX7_mean_4 rfl ml_RX7_74 rfl rfl (Nat.le_of_ble_eq_true rfl) (Nat.le_of_ble_eq_true rfl) (Nat.le_of_ble_eq_true rfl) (c_X7_isWithin l hJ _ a1 (0 : Int32) (60 : Int32)) (fun _ => rfl) (fun r1 S2 h3 o4 => ?_)
  refine G_if_ne (q := 10) (t := 14) cx dX7_mean_7 rfl (by decide) (fun c5 => ?_) (fun c5 => ?_)
  · refine G_iconst (q := 15) (v := (0 : Int32)) cx dX7_mean_14 rfl (by decide) ?_
    refine G_istore_n (q := 16) (ls' := [(3, .int (0 : Int32)), (0, .ref (ad 7 0)), (1, .int a1), (2, .int a2)]) cx dX7_mean_15 rfl rfl (Nat.le_of_ble_eq_true rfl) rfl ?_
    refine G_iconst (q := 17) (v := (0 : Int32)) cx dX7_mean_16 rfl (by decide) ?_
    refine G_istore (q := 19) (ls' := [(4, .int (0 : Int32)), (3, .int (0 : Int32)), (0, .ref (ad 7 0)), (1, .int a1), (2, .int a2)]) cx dX7_mean_17 rfl (Nat.le_of_ble_eq_true rfl) rfl ?_
    have lp_6 : ∀ (K_6 : Int32 → Int32 → St → Option (Int64 × St)) (hK_6 : ∀ (y3_6 : Int32) (y4_6 : Int32) (T_6 : St), TG p l e 6 s m ([.ref (ad 7 0), .int a1, .int a2] : List Value).toArray below meth c D cy ad (nX k) toJ okT T_6 47 [(3, .int y3_6), (4, .int y4_6), (0, .ref (ad 7 0)), (1, .int a1), (2, .int a2)] [] (K_6 y3_6 y4_6 T_6)), ∀ (n_6 : Nat) (x3_6 : Int32) (x4_6 : Int32) (S_6 : St), TG p l e 6 s m ([.ref (ad 7 0), .int a1, .int a2] : List Value).toArray below meth c D cy ad (nX k) toJ okT S_6 19 [(3, .int x3_6), (4, .int x4_6), (0, .ref (ad 7 0)), (1, .int a1), (2, .int a2)] [] (L_X7_mean_19 a1 K_6 n_6 x3_6 x4_6 S_6) := by
      intro K_6 hK_6 n_6
      induction n_6 with
      | zero => intros; exact G_none
      | succ n_6 ih_6 =>
        intro x3_6 x4_6 S_6
        rw [L_X7_mean_19.eq_2]
        refine G_iload (q := 21) cx dX7_mean_19 rfl rfl ?_
        refine G_aload_n (q := 22) cx dX7_mean_21 rfl rfl ?_
        refine G_getr (q := 25) (g := 5) (i' := 0) cx dX7_mean_22 rfl cf_7 fl_RX7_23 (Nat.le_of_ble_eq_true rfl) rfl rfl (Nat.le_of_ble_eq_true rfl) ?_
        refine G_geti (q := 28) cx dX7_mean_25 rfl cf_5 fl_RX7_81 (Nat.le_of_ble_eq_true rfl) rfl (Nat.le_of_ble_eq_true rfl) ?_
        refine G_icmp_ge (q := 31) (t := 47) cx dX7_mean_28 rfl (by decide) (fun c11 => ?_) (fun c11 => ?_)
        · exact G_loc [0, 1, 2, 3, 4] rfl (hK_6 x3_6 x4_6 S_6)
        refine G_iload_n (q := 32) cx dX7_mean_31 rfl rfl ?_
        refine G_aload_n (q := 33) cx dX7_mean_32 rfl rfl ?_
        refine G_iload (q := 35) cx dX7_mean_33 rfl rfl ?_
        refine G_iload_n (q := 36) cx dX7_mean_35 rfl rfl ?_
        refine G_callV (q := 39) (d' := 5) (f := 7) (i := 0) (As := [.int x4_6, .int a1]) (rest := [.int x3_6]) (stk := fun r12 => [.int r12, .int x3_6]) cx dX7_mean_36 rfl cf_7 (Nat.le_of_ble_eq_true rfl) ml_RX7_173 rfl rfl (Nat.le_of_ble_eq_true rfl) (Nat.le_of_ble_eq_true rfl) (Nat.le_of_ble_eq_true rfl) (c_X7_heightBehind l hJ _ x4_6 a1) (fun _ => rfl) (fun r12 S13 h14 o15 => ?_)
        refine G_iadd (q := 40) cx dX7_mean_39 rfl ?_
        refine G_istore_n (q := 41) (ls' := [(3, .int (x3_6 + r12)), (4, .int x4_6), (0, .ref (ad 7 0)), (1, .int a1), (2, .int a2)]) cx dX7_mean_40 rfl rfl (Nat.le_of_ble_eq_true rfl) rfl ?_
        refine G_iinc (q := 44) (j := 1) (v := x4_6 + 1) (ls' := [(4, .int (x4_6 + 1)), (3, .int (x3_6 + r12)), (0, .ref (ad 7 0)), (1, .int a1), (2, .int a2)]) cx dX7_mean_41 rfl rfl rfl (Nat.le_of_ble_eq_true rfl) rfl ?_
        refine G_goto (t := 19) cx dX7_mean_44 (by decide) ?_
        exact G_loc [1, 0, 2, 3, 4] rfl (ih_6 (x3_6 + r12) (x4_6 + 1) S13)
    refine G_loc [1, 0, 2, 3, 4] rfl (lp_6 _ (fun y3_6 y4_6 T_6 => ?_) 1000 (0 : Int32) (0 : Int32) S2)
    refine G_iload_n (q := 48) cx dX7_mean_47 rfl rfl ?_
    refine G_aload_n (q := 49) cx dX7_mean_48 rfl rfl ?_
    refine G_getr (q := 52) (g := 5) (i' := 0) cx dX7_mean_49 rfl cf_7 fl_RX7_23 (Nat.le_of_ble_eq_true rfl) rfl rfl (Nat.le_of_ble_eq_true rfl) ?_
    refine G_geti (q := 55) cx dX7_mean_52 rfl cf_5 fl_RX7_81 (Nat.le_of_ble_eq_true rfl) rfl (Nat.le_of_ble_eq_true rfl) ?_
    refine G_iload_n (q := 56) cx dX7_mean_55 rfl rfl ?_
    refine G_callS (q := 59) (d' := 1) (As := [.int y3_6, .int (gI T_6 5 0 5), .int a2]) (rest := []) (stk := fun r7 => [.long r7]) cx dX7_mean_56 rfl ml_RX7_244 rfl rfl (Nat.le_of_ble_eq_true rfl) (Nat.le_of_ble_eq_true rfl) (Nat.le_of_ble_eq_true rfl) (c_X7_partOfFraction l hJ _ y3_6 (gI T_6 5 0 5) a2) (fun _ => rfl) (fun r7 S8 h9 o10 => ?_)
    exact G_lret cx rfl dX7_mean_59 trivial
  · refine G_ldc2_w (q := 13) (v := (-9223372036854775808 : Int64)) cx dX7_mean_10 rfl (inG (inT 650 (by decide +kernel)) rfl) ?_
    exact G_lret cx rfl dX7_mean_13 trivial
def F_X7_book (S : St) (a1 : Int32) (a2 : Int32) : Option (Int32 × St) :=
  bnd (F_X7_tellRow S 2 a1 a2 (-99 : Int32) (99 : Int32)) (fun r1 S2 =>
  some (r1, S2))
set_option maxRecDepth 10000 in
theorem c_X7_book (l : Launch) {D : va_G} {cy : Nat → ClassId} {ad : Nat → Nat → Nat} {k : Nat} (hJ : wJ ad (nX k)) (S : St) (a1 : Int32) (a2 : Int32) : CT l yX7_book cX7_book 3 (some .int) 2 D cy ad (nX k) toI okT [.ref (ad 7 0), .int a1, .int a2] S (F_X7_book S a1 a2) := by
  refine CT.of RX7 (by decide) rfl hJ (Nat.le_of_ble_eq_true rfl) rfl ?_
  intro p e s m below meth c cx
  unfold F_X7_book
  refine G_aload_n (q := 1) cx dX7_book_0 rfl rfl ?_
  refine G_aload_n (q := 2) cx dX7_book_1 rfl rfl ?_
  refine G_getr (q := 5) (g := 5) (i' := 0) cx dX7_book_2 rfl cf_7 fl_RX7_23 (Nat.le_of_ble_eq_true rfl) rfl rfl (Nat.le_of_ble_eq_true rfl) ?_
  refine G_getr (q := 8) (g := 4) (i' := 2) cx dX7_book_5 rfl cf_5 fl_RX7_248 (Nat.le_of_ble_eq_true rfl) rfl rfl (Nat.le_of_ble_eq_true rfl) ?_
  refine G_iload_n (q := 9) cx dX7_book_8 rfl rfl ?_
  refine G_iload_n (q := 10) cx dX7_book_9 rfl rfl ?_
  refine G_bipush (q := 12) (v := (-99 : Int32)) cx dX7_book_10 rfl (by decide) ?_
  refine G_bipush (q := 14) (v := (99 : Int32)) cx dX7_book_12 rfl (by decide) ?_
  refine G_callV (q := 17) (d' := 1) (f := 7) (i := 0) (As := [.ref (ad 4 2), .int a1, .int a2, .int (-99 : Int32), .int (99 : Int32)]) (rest := []) (stk := fun r1 => [.int r1]) cx dX7_book_14 rfl cf_7 (Nat.le_of_ble_eq_true rfl) ml_RX7_218 rfl rfl (Nat.le_of_ble_eq_true rfl) (Nat.le_of_ble_eq_true rfl) (Nat.le_of_ble_eq_true rfl) (c_X7_tellRow l hJ _ 2 a1 a2 (-99 : Int32) (99 : Int32) (Nat.le_of_ble_eq_true rfl)) (fun _ => rfl) (fun r1 S2 h3 o4 => ?_)
  exact G_iret cx rfl dX7_book_17 trivial
def L_X7_looked_2 (K_1 : Int32 → St → Option (Int32 × St)) : Nat → Int32 → St → Option (Int32 × St)
  | 0, _, _ => none
  | n + 1, x1_1, S_1 =>
    if (gI S_1 4 2 2) ≤ x1_1 then (K_1 x1_1 S_1)
    else (if 0 ≤ x1_1 ∧ x1_1.toNatClampNeg < 8 then (if 0 ≤ (gI S_1 14 2 x1_1.toNatClampNeg) ∧ (gI S_1 14 2 x1_1.toNatClampNeg).toNatClampNeg < 6 then ((gR S_1 5 0 8).elim none
    (fun p7 => bnd (F_X3_climb S_1 (6 * 0 + (gI S_1 14 2 x1_1.toNatClampNeg).toNatClampNeg) p7 (gI S_1 2 0 1) (gI S_1 2 0 2)) (fun r10 S11 =>
    if 0 ≤ x1_1 ∧ x1_1.toNatClampNeg < 8 then (if r10 = (gI S11 15 2 x1_1.toNatClampNeg) then (L_X7_looked_2 K_1 n (x1_1 + 1) S11)
    else (some (x1_1, S11)))
    else none)))
    else none)
    else none)
def F_X7_looked (S : St) : Option (Int32 × St) :=
  L_X7_looked_2 
  (fun y1_1 T_1 => some ((-5 : Int32), T_1)) 1000 (0 : Int32) S
set_option maxRecDepth 10000 in
theorem c_X7_looked (l : Launch) {D : va_G} {cy : Nat → ClassId} {ad : Nat → Nat → Nat} {k : Nat} (hJ : wJ ad (nX k)) (S : St) : CT l yX7_looked cX7_looked 3 (some .int) 4 D cy ad (nX k) toI okT [.ref (ad 7 0)] S (F_X7_looked S) := by
  refine CT.of RX7 (by decide) rfl hJ (Nat.le_of_ble_eq_true rfl) rfl ?_
  intro p e s m below meth c cx
  unfold F_X7_looked
  refine G_iconst (q := 1) (v := (0 : Int32)) cx dX7_looked_0 rfl (by decide) ?_
  refine G_istore_n (q := 2) (ls' := [(1, .int (0 : Int32)), (0, .ref (ad 7 0))]) cx dX7_looked_1 rfl rfl (Nat.le_of_ble_eq_true rfl) rfl ?_
  have lp_1 : ∀ (K_1 : Int32 → St → Option (Int32 × St)) (hK_1 : ∀ (y1_1 : Int32) (T_1 : St), TG p l e 4 s m ([.ref (ad 7 0)] : List Value).toArray below meth c D cy ad (nX k) toI okT T_1 91 [(1, .int y1_1), (0, .ref (ad 7 0))] [] (K_1 y1_1 T_1)), ∀ (n_1 : Nat) (x1_1 : Int32) (S_1 : St), TG p l e 4 s m ([.ref (ad 7 0)] : List Value).toArray below meth c D cy ad (nX k) toI okT S_1 2 [(1, .int x1_1), (0, .ref (ad 7 0))] [] (L_X7_looked_2 K_1 n_1 x1_1 S_1) := by
    intro K_1 hK_1 n_1
    induction n_1 with
    | zero => intros; exact G_none
    | succ n_1 ih_1 =>
      intro x1_1 S_1
      rw [L_X7_looked_2.eq_2]
      refine G_iload_n (q := 3) cx dX7_looked_2 rfl rfl ?_
      refine G_aload_n (q := 4) cx dX7_looked_3 rfl rfl ?_
      refine G_getr (q := 7) (g := 5) (i' := 0) cx dX7_looked_4 rfl cf_7 fl_RX7_23 (Nat.le_of_ble_eq_true rfl) rfl rfl (Nat.le_of_ble_eq_true rfl) ?_
      refine G_getr (q := 10) (g := 4) (i' := 2) cx dX7_looked_7 rfl cf_5 fl_RX7_248 (Nat.le_of_ble_eq_true rfl) rfl rfl (Nat.le_of_ble_eq_true rfl) ?_
      refine G_geti (q := 13) cx dX7_looked_10 rfl cf_4 fl_RX7_222 (Nat.le_of_ble_eq_true rfl) rfl (Nat.le_of_ble_eq_true rfl) ?_
      refine G_icmp_ge (q := 16) (t := 91) cx dX7_looked_13 rfl (by decide) (fun c2 => ?_) (fun c2 => ?_)
      · exact G_loc [0, 1] rfl (hK_1 x1_1 S_1)
      refine G_aload_n (q := 17) cx dX7_looked_16 rfl rfl ?_
      refine G_getr (q := 20) (g := 5) (i' := 0) cx dX7_looked_17 rfl cf_7 fl_RX7_23 (Nat.le_of_ble_eq_true rfl) rfl rfl (Nat.le_of_ble_eq_true rfl) ?_
      refine G_getr (q := 23) (g := 12) (i' := 0) cx dX7_looked_20 rfl cf_5 fl_RX7_84 (Nat.le_of_ble_eq_true rfl) rfl rfl (Nat.le_of_ble_eq_true rfl) ?_
      refine G_aload_n (q := 24) cx dX7_looked_23 rfl rfl ?_
      refine G_getr (q := 27) (g := 5) (i' := 0) cx dX7_looked_24 rfl cf_7 fl_RX7_23 (Nat.le_of_ble_eq_true rfl) rfl rfl (Nat.le_of_ble_eq_true rfl) ?_
      refine G_getr (q := 30) (g := 4) (i' := 2) cx dX7_looked_27 rfl cf_5 fl_RX7_248 (Nat.le_of_ble_eq_true rfl) rfl rfl (Nat.le_of_ble_eq_true rfl) ?_
      refine G_getr (q := 33) (g := 14) (i' := 2) cx dX7_looked_30 rfl cf_4 fl_RX7_227 (Nat.le_of_ble_eq_true rfl) rfl rfl (Nat.le_of_ble_eq_true rfl) ?_
      refine G_iload_n (q := 34) cx dX7_looked_33 rfl rfl ?_
      refine G_iald (q := 35) cx dX7_looked_34 rfl (by decide) rfl rfl (Nat.le_of_ble_eq_true rfl) (fun g3 g4 => ?_)
      refine G_aaldL (q := 36) cx dX7_looked_35 rfl (Nat.le_of_ble_eq_true rfl) (fun g5 g6 => ?_)
      refine G_astore_n (q := 37) (ls' := [(2, .ref (ad 3 (6 * 0 + (gI S_1 14 2 x1_1.toNatClampNeg).toNatClampNeg))), (1, .int x1_1), (0, .ref (ad 7 0))]) cx dX7_looked_36 rfl rfl (Nat.le_of_ble_eq_true rfl) rfl ?_
      refine G_aload_n (q := 38) cx dX7_looked_37 rfl rfl ?_
      refine G_aload_n (q := 39) cx dX7_looked_38 rfl rfl ?_
      refine G_getr (q := 42) (g := 5) (i' := 0) cx dX7_looked_39 rfl cf_7 fl_RX7_23 (Nat.le_of_ble_eq_true rfl) rfl rfl (Nat.le_of_ble_eq_true rfl) ?_
      refine G_geta (q := 45) cx dX7_looked_42 rfl cf_5 fl_RX7_109 (Nat.le_of_ble_eq_true rfl) rfl (Nat.le_of_ble_eq_true rfl) (fun e8 => ?_) (fun p7 e9 h_p7 => ?_)
      · exact G_none
      refine G_aload_n (q := 46) cx dX7_looked_45 rfl rfl ?_
      refine G_getr (q := 49) (g := 5) (i' := 0) cx dX7_looked_46 rfl cf_7 fl_RX7_23 (Nat.le_of_ble_eq_true rfl) rfl rfl (Nat.le_of_ble_eq_true rfl) ?_
      refine G_getr (q := 52) (g := 2) (i' := 0) cx dX7_looked_49 rfl cf_5 fl_RX7_112 (Nat.le_of_ble_eq_true rfl) rfl rfl (Nat.le_of_ble_eq_true rfl) ?_
      refine G_geti (q := 55) cx dX7_looked_52 rfl cf_2 fl_RX7_115 (Nat.le_of_ble_eq_true rfl) rfl (Nat.le_of_ble_eq_true rfl) ?_
      refine G_aload_n (q := 56) cx dX7_looked_55 rfl rfl ?_
      refine G_getr (q := 59) (g := 5) (i' := 0) cx dX7_looked_56 rfl cf_7 fl_RX7_23 (Nat.le_of_ble_eq_true rfl) rfl rfl (Nat.le_of_ble_eq_true rfl) ?_
      refine G_getr (q := 62) (g := 2) (i' := 0) cx dX7_looked_59 rfl cf_5 fl_RX7_112 (Nat.le_of_ble_eq_true rfl) rfl rfl (Nat.le_of_ble_eq_true rfl) ?_
      refine G_geti (q := 65) cx dX7_looked_62 rfl cf_2 fl_RX7_118 (Nat.le_of_ble_eq_true rfl) rfl (Nat.le_of_ble_eq_true rfl) ?_
      refine G_callV (q := 68) (d' := 3) (f := 3) (i := (6 * 0 + (gI S_1 14 2 x1_1.toNatClampNeg).toNatClampNeg)) (As := [.ref (ad 0 p7), .int (gI S_1 2 0 1), .int (gI S_1 2 0 2)]) (rest := []) (stk := fun r10 => [.int r10]) cx dX7_looked_65 rfl cf_3 (by show 6 * 0 + (gI S_1 14 2 x1_1.toNatClampNeg).toNatClampNeg < 12; omega) ml_RX7_125 rfl rfl (Nat.le_of_ble_eq_true rfl) (Nat.le_of_ble_eq_true rfl) (Nat.le_of_ble_eq_true rfl) (c_X3_climb l hJ _ (6 * 0 + (gI S_1 14 2 x1_1.toNatClampNeg).toNatClampNeg) p7 (gI S_1 2 0 1) (gI S_1 2 0 2) (by show 6 * 0 + (gI S_1 14 2 x1_1.toNatClampNeg).toNatClampNeg < 12; omega) h_p7) (fun _ => rfl) (fun r10 S11 h12 o13 => ?_)
      refine G_aload_n (q := 69) cx dX7_looked_68 rfl rfl ?_
      refine G_getr (q := 72) (g := 5) (i' := 0) cx dX7_looked_69 rfl cf_7 fl_RX7_23 (Nat.le_of_ble_eq_true rfl) rfl rfl (Nat.le_of_ble_eq_true rfl) ?_
      refine G_getr (q := 75) (g := 4) (i' := 2) cx dX7_looked_72 rfl cf_5 fl_RX7_248 (Nat.le_of_ble_eq_true rfl) rfl rfl (Nat.le_of_ble_eq_true rfl) ?_
      refine G_getr (q := 78) (g := 15) (i' := 2) cx dX7_looked_75 rfl cf_4 fl_RX7_229 (Nat.le_of_ble_eq_true rfl) rfl rfl (Nat.le_of_ble_eq_true rfl) ?_
      refine G_iload_n (q := 79) cx dX7_looked_78 rfl rfl ?_
      refine G_iald (q := 80) cx dX7_looked_79 rfl (by decide) rfl rfl (Nat.le_of_ble_eq_true rfl) (fun g14 g15 => ?_)
      refine G_icmp_eq (q := 83) (t := 85) cx dX7_looked_80 rfl (by decide) (fun c16 => ?_) (fun c16 => ?_)
      · refine G_iinc (q := 88) (j := 1) (v := x1_1 + 1) (ls' := [(1, .int (x1_1 + 1)), (2, .ref (ad 3 (6 * 0 + (gI S_1 14 2 x1_1.toNatClampNeg).toNatClampNeg))), (0, .ref (ad 7 0))]) cx dX7_looked_85 rfl rfl rfl (Nat.le_of_ble_eq_true rfl) rfl ?_
        refine G_goto (t := 2) cx dX7_looked_88 (by decide) ?_
        exact G_loc [0, 2] rfl (ih_1 (x1_1 + 1) S11)
      · refine G_iload_n (q := 84) cx dX7_looked_83 rfl rfl ?_
        exact G_iret cx rfl dX7_looked_84 trivial
  refine G_loc [0, 1] rfl (lp_1 _ (fun y1_1 T_1 => ?_) 1000 (0 : Int32) S)
  refine G_bipush (q := 93) (v := (-5 : Int32)) cx dX7_looked_91 rfl (by decide) ?_
  exact G_iret cx rfl dX7_looked_93 trivial
def F_X7_isTape (S : St) (a0 : Int32) : Option (Int32 × St) :=
  bnd (F_X7_isWithin S a0 (0 : Int32) (5 : Int32)) (fun r1 S2 =>
  some (r1, S2))
set_option maxRecDepth 10000 in
theorem c_X7_isTape (l : Launch) {D : va_G} {cy : Nat → ClassId} {ad : Nat → Nat → Nat} {k : Nat} (hJ : wJ ad (nX k)) (S : St) (a0 : Int32) : CT l yX7_isTape cX7_isTape 1 (some .boolean) 1 D cy ad (nX k) toI okZ [.int a0] S (F_X7_isTape S a0) := by
  refine CT.of RX7 (by decide) rfl hJ (Nat.le_of_ble_eq_true rfl) rfl ?_
  intro p e s m below meth c cx
  unfold F_X7_isTape
  refine G_iload_n (q := 1) cx dX7_isTape_0 rfl rfl ?_
  refine G_iconst (q := 2) (v := (0 : Int32)) cx dX7_isTape_1 rfl (by decide) ?_
  refine G_iconst (q := 3) (v := (5 : Int32)) cx dX7_isTape_2 rfl (by decide) ?_
  refine G_callS (q := 6) (d' := 0) (As := [.int a0, .int (0 : Int32), .int (5 : Int32)]) (rest := []) (stk := fun r1 => [.int r1]) cx dX7_isTape_3 rfl ml_RX7_74 rfl rfl (Nat.le_of_ble_eq_true rfl) (Nat.le_of_ble_eq_true rfl) (Nat.le_of_ble_eq_true rfl) (c_X7_isWithin l hJ _ a0 (0 : Int32) (5 : Int32)) (fun _ => rfl) (fun r1 S2 h3 o4 => ?_)
  exact G_zret (ty := .boolean) cx rfl dX7_isTape_6 o4 o4
def L_X7_judge_36 (a1 : Int32) (a2 : Int32) (K_13 : Int32 → St → Option (Int32 × St)) : Nat → Int32 → St → Option (Int32 × St)
  | 0, _, _ => none
  | n + 1, x4_13, S_13 =>
    if (gI S_13 5 0 5) ≤ x4_13 then (K_13 x4_13 S_13)
    else (if a2 < 0 then (some ((100 : Int32) + x4_13, S_13))
    else (if a2 < ((gI S_13 6 a1.toNatClampNeg 2) - x4_13) then (if 0 ≤ (a2 + x4_13) ∧ (a2 + x4_13).toNatClampNeg < 60 then (if 0 ≤ x4_13 ∧ x4_13.toNatClampNeg < 6 then (if (lg_cmp (gJ S_13 18 a1.toNatClampNeg (a2 + x4_13).toNatClampNeg) ((gI S_13 3 (6 * 0 + x4_13.toNatClampNeg) 4).toInt64)) = 0 then (L_X7_judge_36 a1 a2 K_13 n (x4_13 + 1) S_13)
    else (some (x4_13, S_13)))
    else none)
    else none)
    else (some ((100 : Int32) + x4_13, S_13))))
def L_X7_judge_36b (a1 : Int32) (a2 : Int32) (K_23 : Int32 → St → Option (Int32 × St)) : Nat → Int32 → St → Option (Int32 × St)
  | 0, _, _ => none
  | n + 1, x4_23, S_23 =>
    if (gI S_23 5 0 5) ≤ x4_23 then (K_23 x4_23 S_23)
    else (if a2 < 0 then (some ((100 : Int32) + x4_23, S_23))
    else (if a2 < ((gI S_23 6 a1.toNatClampNeg 2) - x4_23) then (if 0 ≤ (a2 + x4_23) ∧ (a2 + x4_23).toNatClampNeg < 60 then (if 0 ≤ x4_23 ∧ x4_23.toNatClampNeg < 6 then (if (lg_cmp (gJ S_23 18 a1.toNatClampNeg (a2 + x4_23).toNatClampNeg) ((gI S_23 3 (6 * 0 + x4_23.toNatClampNeg) 4).toInt64)) = 0 then (L_X7_judge_36b a1 a2 K_23 n (x4_23 + 1) S_23)
    else (some (x4_23, S_23)))
    else none)
    else none)
    else (some ((100 : Int32) + x4_23, S_23))))
def F_X7_judge (S : St) (a1 : Int32) (a2 : Int32) : Option (Int32 × St) :=
  bnd (F_X7_isTape S a1) (fun r1 S2 =>
  if r1 = 0 then (some ((-1 : Int32), S2))
  else (if 0 ≤ a1 ∧ a1.toNatClampNeg < 6 then (bnd (F_X6_holds S2 a1.toNatClampNeg) (fun r8 S9 =>
  if r8 = 0 then (L_X7_judge_36 a1 a2 
  (fun y4_13 T_13 => some ((-5 : Int32), T_13)) 1000 (0 : Int32) S9)
  else (if (gI S9 6 a1.toNatClampNeg 1) = 0 then (L_X7_judge_36b a1 a2 
  (fun y4_23 T_23 => some ((-5 : Int32), T_23)) 1000 (0 : Int32) S9)
  else (some ((-12 : Int32), S9)))))
  else none))
set_option maxRecDepth 10000 in
theorem c_X7_judge (l : Launch) {D : va_G} {cy : Nat → ClassId} {ad : Nat → Nat → Nat} {k : Nat} (hJ : wJ ad (nX k)) (S : St) (a1 : Int32) (a2 : Int32) : CT l yX7_judge cX7_judge 5 (some .int) 2 D cy ad (nX k) toI okT [.ref (ad 7 0), .int a1, .int a2] S (F_X7_judge S a1 a2) := by
  refine CT.of RX7 (by decide) rfl hJ (Nat.le_of_ble_eq_true rfl) rfl ?_
  intro p e s m below meth c cx
  unfold F_X7_judge
  refine G_iload_n (q := 1) cx dX7_judge_0 rfl rfl ?_
  refine G_callS (q := 4) (d' := 1) (As := [.int a1]) (rest := []) (stk := fun r1 => [.int r1]) cx dX7_judge_1 rfl ml_RX7_251 rfl rfl (Nat.le_of_ble_eq_true rfl) (Nat.le_of_ble_eq_true rfl) (Nat.le_of_ble_eq_true rfl) (c_X7_isTape l hJ _ a1) (fun _ => rfl) (fun r1 S2 h3 o4 => ?_)
  refine G_if_ne (q := 7) (t := 9) cx dX7_judge_4 rfl (by decide) (fun c5 => ?_) (fun c5 => ?_)
  · refine G_aload_n (q := 10) cx dX7_judge_9 rfl rfl ?_
    refine G_getr (q := 13) (g := 11) (i' := 0) cx dX7_judge_10 rfl cf_7 fl_RX7_54 (Nat.le_of_ble_eq_true rfl) rfl rfl (Nat.le_of_ble_eq_true rfl) ?_
    refine G_iload_n (q := 14) cx dX7_judge_13 rfl rfl ?_
    refine G_aaldT (q := 15) cx dX7_judge_14 rfl (Nat.le_of_ble_eq_true rfl) (fun g6 g7 => ?_)
    refine G_astore_n (q := 16) (ls' := [(3, .ref (ad 6 a1.toNatClampNeg)), (0, .ref (ad 7 0)), (1, .int a1), (2, .int a2)]) cx dX7_judge_15 rfl rfl (Nat.le_of_ble_eq_true rfl) rfl ?_
    refine G_aload_n (q := 17) cx dX7_judge_16 rfl rfl ?_
    refine G_callV (q := 20) (d' := 0) (f := 6) (i := a1.toNatClampNeg) (As := []) (rest := []) (stk := fun r8 => [.int r8]) cx dX7_judge_17 rfl cf_6 (by show a1.toNatClampNeg < 6; omega) ml_RX7_254 rfl rfl (Nat.le_of_ble_eq_true rfl) (Nat.le_of_ble_eq_true rfl) (Nat.le_of_ble_eq_true rfl) (c_X6_holds l hJ _ a1.toNatClampNeg (by show a1.toNatClampNeg < 6; omega)) (fun _ => rfl) (fun r8 S9 h10 o11 => ?_)
    refine G_if_eq (q := 23) (t := 33) cx dX7_judge_20 rfl (by decide) (fun c12 => ?_) (fun c12 => ?_)
    · refine G_iconst (q := 34) (v := (0 : Int32)) cx dX7_judge_33 rfl (by decide) ?_
      refine G_istore (q := 36) (ls' := [(4, .int (0 : Int32)), (3, .ref (ad 6 a1.toNatClampNeg)), (0, .ref (ad 7 0)), (1, .int a1), (2, .int a2)]) cx dX7_judge_34 rfl (Nat.le_of_ble_eq_true rfl) rfl ?_
      have lp_13 : ∀ (K_13 : Int32 → St → Option (Int32 × St)) (hK_13 : ∀ (y4_13 : Int32) (T_13 : St), TG p l e 2 s m ([.ref (ad 7 0), .int a1, .int a2] : List Value).toArray below meth c D cy ad (nX k) toI okT T_13 105 [(4, .int y4_13), (3, .ref (ad 6 a1.toNatClampNeg)), (0, .ref (ad 7 0)), (1, .int a1), (2, .int a2)] [] (K_13 y4_13 T_13)), ∀ (n_13 : Nat) (x4_13 : Int32) (S_13 : St), TG p l e 2 s m ([.ref (ad 7 0), .int a1, .int a2] : List Value).toArray below meth c D cy ad (nX k) toI okT S_13 36 [(4, .int x4_13), (3, .ref (ad 6 a1.toNatClampNeg)), (0, .ref (ad 7 0)), (1, .int a1), (2, .int a2)] [] (L_X7_judge_36 a1 a2 K_13 n_13 x4_13 S_13) := by
        intro K_13 hK_13 n_13
        induction n_13 with
        | zero => intros; exact G_none
        | succ n_13 ih_13 =>
          intro x4_13 S_13
          rw [L_X7_judge_36.eq_2]
          refine G_iload (q := 38) cx dX7_judge_36 rfl rfl ?_
          refine G_aload_n (q := 39) cx dX7_judge_38 rfl rfl ?_
          refine G_getr (q := 42) (g := 5) (i' := 0) cx dX7_judge_39 rfl cf_7 fl_RX7_23 (Nat.le_of_ble_eq_true rfl) rfl rfl (Nat.le_of_ble_eq_true rfl) ?_
          refine G_geti (q := 45) cx dX7_judge_42 rfl cf_5 fl_RX7_81 (Nat.le_of_ble_eq_true rfl) rfl (Nat.le_of_ble_eq_true rfl) ?_
          refine G_icmp_ge (q := 48) (t := 105) cx dX7_judge_45 rfl (by decide) (fun c14 => ?_) (fun c14 => ?_)
          · exact G_loc [0, 1, 2, 3, 4] rfl (hK_13 x4_13 S_13)
          refine G_iload_n (q := 49) cx dX7_judge_48 rfl rfl ?_
          refine G_if_lt (q := 52) (t := 63) cx dX7_judge_49 rfl (by decide) (fun c15 => ?_) (fun c15 => ?_)
          · refine G_bipush (q := 65) (v := (100 : Int32)) cx dX7_judge_63 rfl (by decide) ?_
            refine G_iload (q := 67) cx dX7_judge_65 rfl rfl ?_
            refine G_iadd (q := 68) cx dX7_judge_67 rfl ?_
            exact G_iret cx rfl dX7_judge_68 trivial
          refine G_iload_n (q := 53) cx dX7_judge_52 rfl rfl ?_
          refine G_aload_n (q := 54) cx dX7_judge_53 rfl rfl ?_
          refine G_geti (q := 57) cx dX7_judge_54 rfl cf_6 fl_RX7_261 (Nat.le_of_ble_eq_true rfl) rfl (by show a1.toNatClampNeg < 6; omega) ?_
          refine G_iload (q := 59) cx dX7_judge_57 rfl rfl ?_
          refine G_isub (q := 60) cx dX7_judge_59 rfl ?_
          refine G_icmp_lt (q := 63) (t := 69) cx dX7_judge_60 rfl (by decide) (fun c16 => ?_) (fun c16 => ?_)
          · refine G_aload_n (q := 70) cx dX7_judge_69 rfl rfl ?_
            refine G_getr (q := 73) (g := 18) (i' := a1.toNatClampNeg) cx dX7_judge_70 rfl cf_6 fl_RX7_264 (Nat.le_of_ble_eq_true rfl) rfl rfl (by show a1.toNatClampNeg < 6; omega) ?_
            refine G_iload_n (q := 74) cx dX7_judge_73 rfl rfl ?_
            refine G_iload (q := 76) cx dX7_judge_74 rfl rfl ?_
            refine G_iadd (q := 77) cx dX7_judge_76 rfl ?_
            refine G_lald (q := 78) cx dX7_judge_77 rfl (by decide) rfl rfl (by show a1.toNatClampNeg < 6; omega) (fun g17 g18 => ?_)
            refine G_aload_n (q := 79) cx dX7_judge_78 rfl rfl ?_
            refine G_getr (q := 82) (g := 5) (i' := 0) cx dX7_judge_79 rfl cf_7 fl_RX7_23 (Nat.le_of_ble_eq_true rfl) rfl rfl (Nat.le_of_ble_eq_true rfl) ?_
            refine G_getr (q := 85) (g := 12) (i' := 0) cx dX7_judge_82 rfl cf_5 fl_RX7_84 (Nat.le_of_ble_eq_true rfl) rfl rfl (Nat.le_of_ble_eq_true rfl) ?_
            refine G_iload (q := 87) cx dX7_judge_85 rfl rfl ?_
            refine G_aaldL (q := 88) cx dX7_judge_87 rfl (Nat.le_of_ble_eq_true rfl) (fun g19 g20 => ?_)
            refine G_geti (q := 91) cx dX7_judge_88 rfl cf_3 fl_RX7_103 (Nat.le_of_ble_eq_true rfl) rfl (by show 6 * 0 + x4_13.toNatClampNeg < 12; omega) ?_
            refine G_i2l (q := 92) cx dX7_judge_91 rfl ?_
            refine G_lcmp (q := 93) cx dX7_judge_92 rfl ?_
            refine G_if_eq (q := 96) (t := 99) cx dX7_judge_93 rfl (by decide) (fun c21 => ?_) (fun c21 => ?_)
            · refine G_iinc (q := 102) (j := 0) (v := x4_13 + 1) (ls' := [(4, .int (x4_13 + 1)), (3, .ref (ad 6 a1.toNatClampNeg)), (0, .ref (ad 7 0)), (1, .int a1), (2, .int a2)]) cx dX7_judge_99 rfl rfl rfl (Nat.le_of_ble_eq_true rfl) rfl ?_
              refine G_goto (t := 36) cx dX7_judge_102 (by decide) ?_
              exact G_loc [0, 1, 2, 3, 4] rfl (ih_13 (x4_13 + 1) S_13)
            · refine G_iload (q := 98) cx dX7_judge_96 rfl rfl ?_
              exact G_iret cx rfl dX7_judge_98 trivial
          refine G_bipush (q := 65) (v := (100 : Int32)) cx dX7_judge_63 rfl (by decide) ?_
          refine G_iload (q := 67) cx dX7_judge_65 rfl rfl ?_
          refine G_iadd (q := 68) cx dX7_judge_67 rfl ?_
          exact G_iret cx rfl dX7_judge_68 trivial
      refine G_loc [0, 1, 2, 3, 4] rfl (lp_13 _ (fun y4_13 T_13 => ?_) 1000 (0 : Int32) S9)
      refine G_bipush (q := 107) (v := (-5 : Int32)) cx dX7_judge_105 rfl (by decide) ?_
      exact G_iret cx rfl dX7_judge_107 trivial
    refine G_aload_n (q := 24) cx dX7_judge_23 rfl rfl ?_
    refine G_geti (q := 27) cx dX7_judge_24 rfl cf_6 fl_RX7_258 (Nat.le_of_ble_eq_true rfl) rfl (by show a1.toNatClampNeg < 6; omega) ?_
    refine G_if_eq (q := 30) (t := 33) cx dX7_judge_27 rfl (by decide) (fun c22 => ?_) (fun c22 => ?_)
    · refine G_iconst (q := 34) (v := (0 : Int32)) cx dX7_judge_33 rfl (by decide) ?_
      refine G_istore (q := 36) (ls' := [(4, .int (0 : Int32)), (3, .ref (ad 6 a1.toNatClampNeg)), (0, .ref (ad 7 0)), (1, .int a1), (2, .int a2)]) cx dX7_judge_34 rfl (Nat.le_of_ble_eq_true rfl) rfl ?_
      have lp_23 : ∀ (K_23 : Int32 → St → Option (Int32 × St)) (hK_23 : ∀ (y4_23 : Int32) (T_23 : St), TG p l e 2 s m ([.ref (ad 7 0), .int a1, .int a2] : List Value).toArray below meth c D cy ad (nX k) toI okT T_23 105 [(4, .int y4_23), (3, .ref (ad 6 a1.toNatClampNeg)), (0, .ref (ad 7 0)), (1, .int a1), (2, .int a2)] [] (K_23 y4_23 T_23)), ∀ (n_23 : Nat) (x4_23 : Int32) (S_23 : St), TG p l e 2 s m ([.ref (ad 7 0), .int a1, .int a2] : List Value).toArray below meth c D cy ad (nX k) toI okT S_23 36 [(4, .int x4_23), (3, .ref (ad 6 a1.toNatClampNeg)), (0, .ref (ad 7 0)), (1, .int a1), (2, .int a2)] [] (L_X7_judge_36b a1 a2 K_23 n_23 x4_23 S_23) := by
        intro K_23 hK_23 n_23
        induction n_23 with
        | zero => intros; exact G_none
        | succ n_23 ih_23 =>
          intro x4_23 S_23
          rw [L_X7_judge_36b.eq_2]
          refine G_iload (q := 38) cx dX7_judge_36 rfl rfl ?_
          refine G_aload_n (q := 39) cx dX7_judge_38 rfl rfl ?_
          refine G_getr (q := 42) (g := 5) (i' := 0) cx dX7_judge_39 rfl cf_7 fl_RX7_23 (Nat.le_of_ble_eq_true rfl) rfl rfl (Nat.le_of_ble_eq_true rfl) ?_
          refine G_geti (q := 45) cx dX7_judge_42 rfl cf_5 fl_RX7_81 (Nat.le_of_ble_eq_true rfl) rfl (Nat.le_of_ble_eq_true rfl) ?_
          refine G_icmp_ge (q := 48) (t := 105) cx dX7_judge_45 rfl (by decide) (fun c24 => ?_) (fun c24 => ?_)
          · exact G_loc [0, 1, 2, 3, 4] rfl (hK_23 x4_23 S_23)
          refine G_iload_n (q := 49) cx dX7_judge_48 rfl rfl ?_
          refine G_if_lt (q := 52) (t := 63) cx dX7_judge_49 rfl (by decide) (fun c25 => ?_) (fun c25 => ?_)
          · refine G_bipush (q := 65) (v := (100 : Int32)) cx dX7_judge_63 rfl (by decide) ?_
            refine G_iload (q := 67) cx dX7_judge_65 rfl rfl ?_
            refine G_iadd (q := 68) cx dX7_judge_67 rfl ?_
            exact G_iret cx rfl dX7_judge_68 trivial
          refine G_iload_n (q := 53) cx dX7_judge_52 rfl rfl ?_
          refine G_aload_n (q := 54) cx dX7_judge_53 rfl rfl ?_
          refine G_geti (q := 57) cx dX7_judge_54 rfl cf_6 fl_RX7_261 (Nat.le_of_ble_eq_true rfl) rfl (by show a1.toNatClampNeg < 6; omega) ?_
          refine G_iload (q := 59) cx dX7_judge_57 rfl rfl ?_
          refine G_isub (q := 60) cx dX7_judge_59 rfl ?_
          refine G_icmp_lt (q := 63) (t := 69) cx dX7_judge_60 rfl (by decide) (fun c26 => ?_) (fun c26 => ?_)
          · refine G_aload_n (q := 70) cx dX7_judge_69 rfl rfl ?_
            refine G_getr (q := 73) (g := 18) (i' := a1.toNatClampNeg) cx dX7_judge_70 rfl cf_6 fl_RX7_264 (Nat.le_of_ble_eq_true rfl) rfl rfl (by show a1.toNatClampNeg < 6; omega) ?_
            refine G_iload_n (q := 74) cx dX7_judge_73 rfl rfl ?_
            refine G_iload (q := 76) cx dX7_judge_74 rfl rfl ?_
            refine G_iadd (q := 77) cx dX7_judge_76 rfl ?_
            refine G_lald (q := 78) cx dX7_judge_77 rfl (by decide) rfl rfl (by show a1.toNatClampNeg < 6; omega) (fun g27 g28 => ?_)
            refine G_aload_n (q := 79) cx dX7_judge_78 rfl rfl ?_
            refine G_getr (q := 82) (g := 5) (i' := 0) cx dX7_judge_79 rfl cf_7 fl_RX7_23 (Nat.le_of_ble_eq_true rfl) rfl rfl (Nat.le_of_ble_eq_true rfl) ?_
            refine G_getr (q := 85) (g := 12) (i' := 0) cx dX7_judge_82 rfl cf_5 fl_RX7_84 (Nat.le_of_ble_eq_true rfl) rfl rfl (Nat.le_of_ble_eq_true rfl) ?_
            refine G_iload (q := 87) cx dX7_judge_85 rfl rfl ?_
            refine G_aaldL (q := 88) cx dX7_judge_87 rfl (Nat.le_of_ble_eq_true rfl) (fun g29 g30 => ?_)
            refine G_geti (q := 91) cx dX7_judge_88 rfl cf_3 fl_RX7_103 (Nat.le_of_ble_eq_true rfl) rfl (by show 6 * 0 + x4_23.toNatClampNeg < 12; omega) ?_
            refine G_i2l (q := 92) cx dX7_judge_91 rfl ?_
            refine G_lcmp (q := 93) cx dX7_judge_92 rfl ?_
            refine G_if_eq (q := 96) (t := 99) cx dX7_judge_93 rfl (by decide) (fun c31 => ?_) (fun c31 => ?_)
            · refine G_iinc (q := 102) (j := 0) (v := x4_23 + 1) (ls' := [(4, .int (x4_23 + 1)), (3, .ref (ad 6 a1.toNatClampNeg)), (0, .ref (ad 7 0)), (1, .int a1), (2, .int a2)]) cx dX7_judge_99 rfl rfl rfl (Nat.le_of_ble_eq_true rfl) rfl ?_
              refine G_goto (t := 36) cx dX7_judge_102 (by decide) ?_
              exact G_loc [0, 1, 2, 3, 4] rfl (ih_23 (x4_23 + 1) S_23)
            · refine G_iload (q := 98) cx dX7_judge_96 rfl rfl ?_
              exact G_iret cx rfl dX7_judge_98 trivial
          refine G_bipush (q := 65) (v := (100 : Int32)) cx dX7_judge_63 rfl (by decide) ?_
          refine G_iload (q := 67) cx dX7_judge_65 rfl rfl ?_
          refine G_iadd (q := 68) cx dX7_judge_67 rfl ?_
          exact G_iret cx rfl dX7_judge_68 trivial
      refine G_loc [0, 1, 2, 3, 4] rfl (lp_23 _ (fun y4_23 T_23 => ?_) 1000 (0 : Int32) S9)
      refine G_bipush (q := 107) (v := (-5 : Int32)) cx dX7_judge_105 rfl (by decide) ?_
      exact G_iret cx rfl dX7_judge_107 trivial
    · refine G_bipush (q := 32) (v := (-12 : Int32)) cx dX7_judge_30 rfl (by decide) ?_
      exact G_iret cx rfl dX7_judge_32 trivial
  · refine G_iconst (q := 8) (v := (-1 : Int32)) cx dX7_judge_7 rfl (by decide) ?_
    exact G_iret cx rfl dX7_judge_8 trivial
def F_X7_image (S : St) : Option (Int32 × St) :=
  bnd (F_X5_copyFrom S 1 0) (fun r1 S2 =>
  some (gI (sI S2 7 0 10 (1 : Int32)) 5 0 5, (sI S2 7 0 10 (1 : Int32))))
set_option maxRecDepth 10000 in
theorem c_X7_image (l : Launch) {D : va_G} {cy : Nat → ClassId} {ad : Nat → Nat → Nat} {k : Nat} (hJ : wJ ad (nX k)) (S : St) : CT l yX7_image cX7_image 1 (some .int) 4 D cy ad (nX k) toI okT [.ref (ad 7 0)] S (F_X7_image S) := by
  refine CT.of RX7 (by decide) rfl hJ (Nat.le_of_ble_eq_true rfl) rfl ?_
  intro p e s m below meth c cx
  unfold F_X7_image
  refine G_aload_n (q := 1) cx dX7_image_0 rfl rfl ?_
  refine G_getr (q := 4) (g := 5) (i' := 1) cx dX7_image_1 rfl cf_7 fl_RX7_27 (Nat.le_of_ble_eq_true rfl) rfl rfl (Nat.le_of_ble_eq_true rfl) ?_
  refine G_aload_n (q := 5) cx dX7_image_4 rfl rfl ?_
  refine G_getr (q := 8) (g := 5) (i' := 0) cx dX7_image_5 rfl cf_7 fl_RX7_23 (Nat.le_of_ble_eq_true rfl) rfl rfl (Nat.le_of_ble_eq_true rfl) ?_
  refine G_callV (q := 11) (d' := 3) (f := 5) (i := 1) (As := [.ref (ad 5 0)]) (rest := []) (stk := fun _ => []) cx dX7_image_8 rfl cf_5 (Nat.le_of_ble_eq_true rfl) ml_RX7_268 rfl rfl (Nat.le_of_ble_eq_true rfl) (Nat.le_of_ble_eq_true rfl) (Nat.le_of_ble_eq_true rfl) (c_X5_copyFrom l hJ _ 1 0 (Nat.le_of_ble_eq_true rfl) (Nat.le_of_ble_eq_true rfl)) (fun _ => rfl) (fun r1 S2 h3 o4 => ?_)
  refine G_aload_n (q := 12) cx dX7_image_11 rfl rfl ?_
  refine G_iconst (q := 13) (v := (1 : Int32)) cx dX7_image_12 rfl (by decide) ?_
  refine G_puti (q := 16) cx dX7_image_13 rfl cf_7 fl_RX7_65 (Nat.le_of_ble_eq_true rfl) rfl rfl rfl rfl rfl (Nat.le_of_ble_eq_true rfl) ?_
  refine G_aload_n (q := 17) cx dX7_image_16 rfl rfl ?_
  refine G_getr (q := 20) (g := 5) (i' := 0) cx dX7_image_17 rfl cf_7 fl_RX7_23 (Nat.le_of_ble_eq_true rfl) rfl rfl (Nat.le_of_ble_eq_true rfl) ?_
  refine G_geti (q := 23) cx dX7_image_20 rfl cf_5 fl_RX7_81 (Nat.le_of_ble_eq_true rfl) rfl (Nat.le_of_ble_eq_true rfl) ?_
  exact G_iret cx rfl dX7_image_23 trivial
def F_X7_undo (S : St) : Option (Int32 × St) :=
  if (gI S 7 0 10) = 0 then (some ((-3 : Int32), S))
  else (bnd (F_X5_copyFrom S 0 1) (fun r2 S3 =>
  some (gI S3 5 0 5, S3)))
set_option maxRecDepth 10000 in
theorem c_X7_undo (l : Launch) {D : va_G} {cy : Nat → ClassId} {ad : Nat → Nat → Nat} {k : Nat} (hJ : wJ ad (nX k)) (S : St) : CT l yX7_undo cX7_undo 1 (some .int) 4 D cy ad (nX k) toI okT [.ref (ad 7 0)] S (F_X7_undo S) := by
  refine CT.of RX7 (by decide) rfl hJ (Nat.le_of_ble_eq_true rfl) rfl ?_
  intro p e s m below meth c cx
  unfold F_X7_undo
  refine G_aload_n (q := 1) cx dX7_undo_0 rfl rfl ?_
  refine G_geti (q := 4) cx dX7_undo_1 rfl cf_7 fl_RX7_65 (Nat.le_of_ble_eq_true rfl) rfl (Nat.le_of_ble_eq_true rfl) ?_
  refine G_if_ne (q := 7) (t := 10) cx dX7_undo_4 rfl (by decide) (fun c1 => ?_) (fun c1 => ?_)
  · refine G_aload_n (q := 11) cx dX7_undo_10 rfl rfl ?_
    refine G_getr (q := 14) (g := 5) (i' := 0) cx dX7_undo_11 rfl cf_7 fl_RX7_23 (Nat.le_of_ble_eq_true rfl) rfl rfl (Nat.le_of_ble_eq_true rfl) ?_
    refine G_aload_n (q := 15) cx dX7_undo_14 rfl rfl ?_
    refine G_getr (q := 18) (g := 5) (i' := 1) cx dX7_undo_15 rfl cf_7 fl_RX7_27 (Nat.le_of_ble_eq_true rfl) rfl rfl (Nat.le_of_ble_eq_true rfl) ?_
    refine G_callV (q := 21) (d' := 3) (f := 5) (i := 0) (As := [.ref (ad 5 1)]) (rest := []) (stk := fun _ => []) cx dX7_undo_18 rfl cf_5 (Nat.le_of_ble_eq_true rfl) ml_RX7_268 rfl rfl (Nat.le_of_ble_eq_true rfl) (Nat.le_of_ble_eq_true rfl) (Nat.le_of_ble_eq_true rfl) (c_X5_copyFrom l hJ _ 0 1 (Nat.le_of_ble_eq_true rfl) (Nat.le_of_ble_eq_true rfl)) (fun _ => rfl) (fun r2 S3 h4 o5 => ?_)
    refine G_aload_n (q := 22) cx dX7_undo_21 rfl rfl ?_
    refine G_getr (q := 25) (g := 5) (i' := 0) cx dX7_undo_22 rfl cf_7 fl_RX7_23 (Nat.le_of_ble_eq_true rfl) rfl rfl (Nat.le_of_ble_eq_true rfl) ?_
    refine G_geti (q := 28) cx dX7_undo_25 rfl cf_5 fl_RX7_81 (Nat.le_of_ble_eq_true rfl) rfl (Nat.le_of_ble_eq_true rfl) ?_
    exact G_iret cx rfl dX7_undo_28 trivial
  · refine G_bipush (q := 9) (v := (-3 : Int32)) cx dX7_undo_7 rfl (by decide) ?_
    exact G_iret cx rfl dX7_undo_9 trivial
def F_X7_act (S : St) (a1 : Int32) (a2 : Int32) (a3 : Int32) : Option (Int32 × St) :=
  bnd (F_X7_isLift (sI S 7 0 9 (0 : Int32)) a1) (fun r1 S2 =>
  if r1 = 0 then (some ((0 : Int32), S2))
  else (if 0 ≤ a1 ∧ a1.toNatClampNeg < 6 then (if a2 = 0 then (bnd (F_X7_turns 3 S2 (6 * 0 + a1.toNatClampNeg) (gI S2 3 (6 * 0 + a1.toNatClampNeg) 2) a3) (fun r9 S10 =>
  some (r9, S10)))
  else (if a2 = 1 then (bnd (F_X7_climbs 4 S2 (6 * 0 + a1.toNatClampNeg) (gI S2 3 (6 * 0 + a1.toNatClampNeg) 2) a3) (fun r14 S15 =>
  some (r14, S15)))
  else (if a2 = 2 then (bnd (F_X7_tells 3 S2 (6 * 0 + a1.toNatClampNeg) (gI S2 3 (6 * 0 + a1.toNatClampNeg) 2) a3) (fun r19 S20 =>
  some (r19, S20)))
  else (some ((0 : Int32), S2)))))
  else none))
set_option maxRecDepth 10000 in
theorem c_X7_act (l : Launch) {D : va_G} {cy : Nat → ClassId} {ad : Nat → Nat → Nat} {k : Nat} (hJ : wJ ad (nX k)) (S : St) (a1 : Int32) (a2 : Int32) (a3 : Int32) : CT l yX7_act cX7_act 5 (some .int) 14 D cy ad (nX k) toI okT [.ref (ad 7 0), .int a1, .int a2, .int a3] S (F_X7_act S a1 a2 a3) := by
  refine CT.of RX7 (by decide) rfl hJ (Nat.le_of_ble_eq_true rfl) rfl ?_
  intro p e s m below meth c cx
  unfold F_X7_act
  refine G_aload_n (q := 1) cx dX7_act_0 rfl rfl ?_
  refine G_iconst (q := 2) (v := (0 : Int32)) cx dX7_act_1 rfl (by decide) ?_
  refine G_puti (q := 5) cx dX7_act_2 rfl cf_7 fl_RX7_62 (Nat.le_of_ble_eq_true rfl) rfl rfl rfl rfl rfl (Nat.le_of_ble_eq_true rfl) ?_
  refine G_aload_n (q := 6) cx dX7_act_5 rfl rfl ?_
  refine G_iload_n (q := 7) cx dX7_act_6 rfl rfl ?_
  refine G_callV (q := 10) (d' := 0) (f := 7) (i := 0) (As := [.int a1]) (rest := []) (stk := fun r1 => [.int r1]) cx dX7_act_7 rfl cf_7 (Nat.le_of_ble_eq_true rfl) ml_RX7_94 rfl rfl (Nat.le_of_ble_eq_true rfl) (Nat.le_of_ble_eq_true rfl) (Nat.le_of_ble_eq_true rfl) (c_X7_isLift l hJ _ a1) (fun _ => rfl) (fun r1 S2 h3 o4 => ?_)
  refine G_if_ne (q := 13) (t := 15) cx dX7_act_10 rfl (by decide) (fun c5 => ?_) (fun c5 => ?_)
  · refine G_aload_n (q := 16) cx dX7_act_15 rfl rfl ?_
    refine G_getr (q := 19) (g := 5) (i' := 0) cx dX7_act_16 rfl cf_7 fl_RX7_23 (Nat.le_of_ble_eq_true rfl) rfl rfl (Nat.le_of_ble_eq_true rfl) ?_
    refine G_getr (q := 22) (g := 12) (i' := 0) cx dX7_act_19 rfl cf_5 fl_RX7_84 (Nat.le_of_ble_eq_true rfl) rfl rfl (Nat.le_of_ble_eq_true rfl) ?_
    refine G_iload_n (q := 23) cx dX7_act_22 rfl rfl ?_
    refine G_aaldL (q := 24) cx dX7_act_23 rfl (Nat.le_of_ble_eq_true rfl) (fun g6 g7 => ?_)
    refine G_astore (q := 26) (ls' := [(4, .ref (ad 3 (6 * 0 + a1.toNatClampNeg))), (0, .ref (ad 7 0)), (1, .int a1), (2, .int a2), (3, .int a3)]) cx dX7_act_24 rfl (Nat.le_of_ble_eq_true rfl) rfl ?_
    refine G_iload_n (q := 27) cx dX7_act_26 rfl rfl ?_
    refine G_case (fun w8 => ?_) (fun w8 => ?_)
    · refine G_tswIn (t := 52) (off := 25) cx dX7_act_27 w8 (by decide) (by decide) (by decide) (by decide) ?_
      refine G_aload_n (q := 53) cx dX7_act_52 rfl rfl ?_
      refine G_aload (q := 55) cx dX7_act_53 rfl rfl ?_
      refine G_aload (q := 57) cx dX7_act_55 rfl rfl ?_
      refine G_geti (q := 60) cx dX7_act_57 rfl cf_3 fl_RX7_97 (Nat.le_of_ble_eq_true rfl) rfl (by show 6 * 0 + a1.toNatClampNeg < 12; omega) ?_
      refine G_iload_n (q := 61) cx dX7_act_60 rfl rfl ?_
      refine G_callV (q := 64) (d' := 4) (f := 7) (i := 0) (As := [.ref (ad 3 (6 * 0 + a1.toNatClampNeg)), .int (gI S2 3 (6 * 0 + a1.toNatClampNeg) 2), .int a3]) (rest := []) (stk := fun r9 => [.int r9]) cx dX7_act_61 rfl cf_7 (Nat.le_of_ble_eq_true rfl) ml_RX7_271 rfl rfl (Nat.le_of_ble_eq_true rfl) (Nat.le_of_ble_eq_true rfl) (Nat.le_of_ble_eq_true rfl) (c_X7_turns l hJ 3 _ (6 * 0 + a1.toNatClampNeg) (gI S2 3 (6 * 0 + a1.toNatClampNeg) 2) a3 (by show 6 * 0 + a1.toNatClampNeg < 12; omega)) (fun _ => rfl) (fun r9 S10 h11 o12 => ?_)
      exact G_iret cx rfl dX7_act_64 trivial
    refine G_case (fun w13 => ?_) (fun w13 => ?_)
    · refine G_tswIn (t := 65) (off := 38) cx dX7_act_27 w13 (by decide) (by decide) (by decide) (by decide) ?_
      refine G_aload_n (q := 66) cx dX7_act_65 rfl rfl ?_
      refine G_aload (q := 68) cx dX7_act_66 rfl rfl ?_
      refine G_aload (q := 70) cx dX7_act_68 rfl rfl ?_
      refine G_geti (q := 73) cx dX7_act_70 rfl cf_3 fl_RX7_97 (Nat.le_of_ble_eq_true rfl) rfl (by show 6 * 0 + a1.toNatClampNeg < 12; omega) ?_
      refine G_iload_n (q := 74) cx dX7_act_73 rfl rfl ?_
      refine G_callV (q := 77) (d' := 9) (f := 7) (i := 0) (As := [.ref (ad 3 (6 * 0 + a1.toNatClampNeg)), .int (gI S2 3 (6 * 0 + a1.toNatClampNeg) 2), .int a3]) (rest := []) (stk := fun r14 => [.int r14]) cx dX7_act_74 rfl cf_7 (Nat.le_of_ble_eq_true rfl) ml_RX7_275 rfl rfl (Nat.le_of_ble_eq_true rfl) (Nat.le_of_ble_eq_true rfl) (Nat.le_of_ble_eq_true rfl) (c_X7_climbs l hJ 4 _ (6 * 0 + a1.toNatClampNeg) (gI S2 3 (6 * 0 + a1.toNatClampNeg) 2) a3 (by show 6 * 0 + a1.toNatClampNeg < 12; omega)) (fun _ => rfl) (fun r14 S15 h16 o17 => ?_)
      exact G_iret cx rfl dX7_act_77 trivial
    refine G_case (fun w18 => ?_) (fun w18 => ?_)
    · refine G_tswIn (t := 78) (off := 51) cx dX7_act_27 w18 (by decide) (by decide) (by decide) (by decide) ?_
      refine G_aload_n (q := 79) cx dX7_act_78 rfl rfl ?_
      refine G_aload (q := 81) cx dX7_act_79 rfl rfl ?_
      refine G_aload (q := 83) cx dX7_act_81 rfl rfl ?_
      refine G_geti (q := 86) cx dX7_act_83 rfl cf_3 fl_RX7_97 (Nat.le_of_ble_eq_true rfl) rfl (by show 6 * 0 + a1.toNatClampNeg < 12; omega) ?_
      refine G_iload_n (q := 87) cx dX7_act_86 rfl rfl ?_
      refine G_callV (q := 90) (d' := 13) (f := 7) (i := 0) (As := [.ref (ad 3 (6 * 0 + a1.toNatClampNeg)), .int (gI S2 3 (6 * 0 + a1.toNatClampNeg) 2), .int a3]) (rest := []) (stk := fun r19 => [.int r19]) cx dX7_act_87 rfl cf_7 (Nat.le_of_ble_eq_true rfl) ml_RX7_278 rfl rfl (Nat.le_of_ble_eq_true rfl) (Nat.le_of_ble_eq_true rfl) (Nat.le_of_ble_eq_true rfl) (c_X7_tells l hJ 3 _ (6 * 0 + a1.toNatClampNeg) (gI S2 3 (6 * 0 + a1.toNatClampNeg) 2) a3 (by show 6 * 0 + a1.toNatClampNeg < 12; omega)) (fun _ => rfl) (fun r19 S20 h21 o22 => ?_)
      exact G_iret cx rfl dX7_act_90 trivial
    have hz27_0 := lv_neT w8 (show (0 : Int32).toInt = 0 by decide)
    have hz27_1 := lv_neT w13 (show (1 : Int32).toInt = 1 by decide)
    have hz27_2 := lv_neT w18 (show (2 : Int32).toInt = 2 by decide)
    refine G_tswOut (t := 91) cx dX7_act_27 (by omega) (by decide) ?_
    refine G_iconst (q := 92) (v := (0 : Int32)) cx dX7_act_91 rfl (by decide) ?_
    exact G_iret cx rfl dX7_act_92 trivial
  · refine G_iconst (q := 14) (v := (0 : Int32)) cx dX7_act_13 rfl (by decide) ?_
    exact G_iret cx rfl dX7_act_14 trivial
def F_X7_trace (S : St) (a1 : Int32) : Option (Int32 × St) :=
  if a1 < 0 then (some ((-1 : Int32), S))
  else (if (gI S 7 0 9) ≤ a1 then (some ((-1 : Int32), S))
  else (if (20 : Int32) ≤ a1 then (some ((-1 : Int32), S))
  else (if 0 ≤ a1 ∧ a1.toNatClampNeg < 20 then (some (gI S 10 0 a1.toNatClampNeg, S))
  else none)))
set_option maxRecDepth 10000 in
theorem c_X7_trace (l : Launch) {D : va_G} {cy : Nat → ClassId} {ad : Nat → Nat → Nat} {k : Nat} (hJ : wJ ad (nX k)) (S : St) (a1 : Int32) : CT l yX7_trace cX7_trace 2 (some .int) 0 D cy ad (nX k) toI okT [.ref (ad 7 0), .int a1] S (F_X7_trace S a1) := by
  refine CT.of RX7 (by decide) rfl hJ (Nat.le_of_ble_eq_true rfl) rfl ?_
  intro p e s m below meth c cx
  unfold F_X7_trace
  refine G_iload_n (q := 1) cx dX7_trace_0 rfl rfl ?_
  refine G_if_lt (q := 4) (t := 30) cx dX7_trace_1 rfl (by decide) (fun c1 => ?_) (fun c1 => ?_)
  · refine G_iconst (q := 31) (v := (-1 : Int32)) cx dX7_trace_30 rfl (by decide) ?_
    exact G_iret cx rfl dX7_trace_31 trivial
  refine G_iload_n (q := 5) cx dX7_trace_4 rfl rfl ?_
  refine G_aload_n (q := 6) cx dX7_trace_5 rfl rfl ?_
  refine G_geti (q := 9) cx dX7_trace_6 rfl cf_7 fl_RX7_62 (Nat.le_of_ble_eq_true rfl) rfl (Nat.le_of_ble_eq_true rfl) ?_
  refine G_icmp_ge (q := 12) (t := 30) cx dX7_trace_9 rfl (by decide) (fun c2 => ?_) (fun c2 => ?_)
  · refine G_iconst (q := 31) (v := (-1 : Int32)) cx dX7_trace_30 rfl (by decide) ?_
    exact G_iret cx rfl dX7_trace_31 trivial
  refine G_iload_n (q := 13) cx dX7_trace_12 rfl rfl ?_
  refine G_aload_n (q := 14) cx dX7_trace_13 rfl rfl ?_
  refine G_getr (q := 17) (g := 10) (i' := 0) cx dX7_trace_14 rfl cf_7 fl_RX7_48 (Nat.le_of_ble_eq_true rfl) rfl rfl (Nat.le_of_ble_eq_true rfl) ?_
  refine G_alenI (q := 18) (v := (20 : Int32)) cx dX7_trace_17 rfl (by decide) rfl (show Int32.ofNat 20 = (20 : Int32) by decide) (Nat.le_of_ble_eq_true rfl) ?_
  refine G_icmp_ge (q := 21) (t := 30) cx dX7_trace_18 rfl (by decide) (fun c3 => ?_) (fun c3 => ?_)
  · refine G_iconst (q := 31) (v := (-1 : Int32)) cx dX7_trace_30 rfl (by decide) ?_
    exact G_iret cx rfl dX7_trace_31 trivial
  refine G_aload_n (q := 22) cx dX7_trace_21 rfl rfl ?_
  refine G_getr (q := 25) (g := 10) (i' := 0) cx dX7_trace_22 rfl cf_7 fl_RX7_48 (Nat.le_of_ble_eq_true rfl) rfl rfl (Nat.le_of_ble_eq_true rfl) ?_
  refine G_iload_n (q := 26) cx dX7_trace_25 rfl rfl ?_
  refine G_iald (q := 27) cx dX7_trace_26 rfl (by decide) rfl rfl (Nat.le_of_ble_eq_true rfl) (fun g4 g5 => ?_)
  refine G_goto (t := 31) cx dX7_trace_27 (by decide) ?_
  exact G_iret cx rfl dX7_trace_31 trivial
def L_X7_taken_37 (a2 : Int32) (K_13 : Int32 → Int32 → St → Option (Int32 × St)) : Nat → Int32 → Int32 → St → Option (Int32 × St)
  | 0, _, _, _ => none
  | n + 1, x3_13, x4_13, S_13 =>
    if (7 : Int32) ≤ x4_13 then (K_13 x3_13 x4_13 S_13)
    else (bnd (F_X7_isKind S_13 x3_13) (fun r18 S19 =>
    if r18 = 0 then (K_13 x3_13 x4_13 S19)
    else (if x3_13 = a2 then (K_13 x3_13 x4_13 S19)
    else (if 0 ≤ x3_13 ∧ x3_13.toNatClampNeg < 7 then (L_X7_taken_37 a2 K_13 n (kaK.getD x3_13.toNatClampNeg 0) (x4_13 + 1) S19)
    else none))))
def F_X7_taken (S : St) (a1 : Int32) (a2 : Int32) : Option (Int32 × St) :=
  bnd (F_X7_isKind S a2) (fun r1 S2 =>
  if r1 = 0 then (some ((-2 : Int32), S2))
  else (bnd (F_X7_isLift S2 a1) (fun r6 S7 =>
  if r6 = 0 then (some ((-11 : Int32), S7))
  else (if 0 ≤ a1 ∧ a1.toNatClampNeg < 6 then (L_X7_taken_37 a2 
  (fun y3_13 y4_13 T_13 => if y3_13 = a2 then (if 0 ≤ a1 ∧ a1.toNatClampNeg < 6 then (some (gI T_13 3 (6 * 0 + a1.toNatClampNeg) 2, T_13))
  else none)
  else (some ((-12 : Int32), T_13))) 1000 (gI S7 3 (6 * 0 + a1.toNatClampNeg) 2) (0 : Int32) S7)
  else none))))
set_option maxRecDepth 10000 in
theorem c_X7_taken (l : Launch) {D : va_G} {cy : Nat → ClassId} {ad : Nat → Nat → Nat} {k : Nat} (hJ : wJ ad (nX k)) (S : St) (a1 : Int32) (a2 : Int32) : CT l yX7_taken cX7_taken 5 (some .int) 2 D cy ad (nX k) toI okT [.ref (ad 7 0), .int a1, .int a2] S (F_X7_taken S a1 a2) := by
  refine CT.of RX7 (by decide) rfl hJ (Nat.le_of_ble_eq_true rfl) rfl ?_
  intro p e s m below meth c cx
  unfold F_X7_taken
  refine G_iload_n (q := 1) cx dX7_taken_0 rfl rfl ?_
  refine G_callS (q := 4) (d' := 1) (As := [.int a2]) (rest := []) (stk := fun r1 => [.int r1]) cx dX7_taken_1 rfl ml_RX7_70 rfl rfl (Nat.le_of_ble_eq_true rfl) (Nat.le_of_ble_eq_true rfl) (Nat.le_of_ble_eq_true rfl) (c_X7_isKind l hJ _ a2) (fun _ => rfl) (fun r1 S2 h3 o4 => ?_)
  refine G_if_ne (q := 7) (t := 10) cx dX7_taken_4 rfl (by decide) (fun c5 => ?_) (fun c5 => ?_)
  · refine G_aload_n (q := 11) cx dX7_taken_10 rfl rfl ?_
    refine G_iload_n (q := 12) cx dX7_taken_11 rfl rfl ?_
    refine G_callV (q := 15) (d' := 0) (f := 7) (i := 0) (As := [.int a1]) (rest := []) (stk := fun r6 => [.int r6]) cx dX7_taken_12 rfl cf_7 (Nat.le_of_ble_eq_true rfl) ml_RX7_94 rfl rfl (Nat.le_of_ble_eq_true rfl) (Nat.le_of_ble_eq_true rfl) (Nat.le_of_ble_eq_true rfl) (c_X7_isLift l hJ _ a1) (fun _ => rfl) (fun r6 S7 h8 o9 => ?_)
    refine G_if_ne (q := 18) (t := 21) cx dX7_taken_15 rfl (by decide) (fun c10 => ?_) (fun c10 => ?_)
    · refine G_aload_n (q := 22) cx dX7_taken_21 rfl rfl ?_
      refine G_getr (q := 25) (g := 5) (i' := 0) cx dX7_taken_22 rfl cf_7 fl_RX7_23 (Nat.le_of_ble_eq_true rfl) rfl rfl (Nat.le_of_ble_eq_true rfl) ?_
      refine G_getr (q := 28) (g := 12) (i' := 0) cx dX7_taken_25 rfl cf_5 fl_RX7_84 (Nat.le_of_ble_eq_true rfl) rfl rfl (Nat.le_of_ble_eq_true rfl) ?_
      refine G_iload_n (q := 29) cx dX7_taken_28 rfl rfl ?_
      refine G_aaldL (q := 30) cx dX7_taken_29 rfl (Nat.le_of_ble_eq_true rfl) (fun g11 g12 => ?_)
      refine G_geti (q := 33) cx dX7_taken_30 rfl cf_3 fl_RX7_97 (Nat.le_of_ble_eq_true rfl) rfl (by show 6 * 0 + a1.toNatClampNeg < 12; omega) ?_
      refine G_istore_n (q := 34) (ls' := [(3, .int (gI S7 3 (6 * 0 + a1.toNatClampNeg) 2)), (0, .ref (ad 7 0)), (1, .int a1), (2, .int a2)]) cx dX7_taken_33 rfl rfl (Nat.le_of_ble_eq_true rfl) rfl ?_
      refine G_iconst (q := 35) (v := (0 : Int32)) cx dX7_taken_34 rfl (by decide) ?_
      refine G_istore (q := 37) (ls' := [(4, .int (0 : Int32)), (3, .int (gI S7 3 (6 * 0 + a1.toNatClampNeg) 2)), (0, .ref (ad 7 0)), (1, .int a1), (2, .int a2)]) cx dX7_taken_35 rfl (Nat.le_of_ble_eq_true rfl) rfl ?_
      have lp_13 : ∀ (K_13 : Int32 → Int32 → St → Option (Int32 × St)) (hK_13 : ∀ (y3_13 : Int32) (y4_13 : Int32) (T_13 : St), TG p l e 2 s m ([.ref (ad 7 0), .int a1, .int a2] : List Value).toArray below meth c D cy ad (nX k) toI okT T_13 70 [(3, .int y3_13), (4, .int y4_13), (0, .ref (ad 7 0)), (1, .int a1), (2, .int a2)] [] (K_13 y3_13 y4_13 T_13)), ∀ (n_13 : Nat) (x3_13 : Int32) (x4_13 : Int32) (S_13 : St), TG p l e 2 s m ([.ref (ad 7 0), .int a1, .int a2] : List Value).toArray below meth c D cy ad (nX k) toI okT S_13 37 [(3, .int x3_13), (4, .int x4_13), (0, .ref (ad 7 0)), (1, .int a1), (2, .int a2)] [] (L_X7_taken_37 a2 K_13 n_13 x3_13 x4_13 S_13) := by
        intro K_13 hK_13 n_13
        induction n_13 with
        | zero => intros; exact G_none
        | succ n_13 ih_13 =>
          intro x3_13 x4_13 S_13
          rw [L_X7_taken_37.eq_2]
          refine G_iload (q := 39) cx dX7_taken_37 rfl rfl ?_
          refine G_getsK (q := 42) cx dX7_taken_39 rfl flj_281 ?_
          refine G_alenK (q := 43) cx dX7_taken_42 rfl ?_
          refine G_icmp_ge (q := 46) (t := 70) cx dX7_taken_43 rfl (by decide) (fun c17 => ?_) (fun c17 => ?_)
          · exact G_loc [0, 1, 2, 3, 4] rfl (hK_13 x3_13 x4_13 S_13)
          refine G_iload_n (q := 47) cx dX7_taken_46 rfl rfl ?_
          refine G_callS (q := 50) (d' := 1) (As := [.int x3_13]) (rest := []) (stk := fun r18 => [.int r18]) cx dX7_taken_47 rfl ml_RX7_70 rfl rfl (Nat.le_of_ble_eq_true rfl) (Nat.le_of_ble_eq_true rfl) (Nat.le_of_ble_eq_true rfl) (c_X7_isKind l hJ _ x3_13) (fun _ => rfl) (fun r18 S19 h20 o21 => ?_)
          refine G_if_eq (q := 53) (t := 70) cx dX7_taken_50 rfl (by decide) (fun c22 => ?_) (fun c22 => ?_)
          · exact G_loc [0, 1, 2, 3, 4] rfl (hK_13 x3_13 x4_13 S19)
          refine G_iload_n (q := 54) cx dX7_taken_53 rfl rfl ?_
          refine G_iload_n (q := 55) cx dX7_taken_54 rfl rfl ?_
          refine G_icmp_eq (q := 58) (t := 70) cx dX7_taken_55 rfl (by decide) (fun c23 => ?_) (fun c23 => ?_)
          · exact G_loc [0, 1, 2, 3, 4] rfl (hK_13 x3_13 x4_13 S19)
          refine G_getsK (q := 61) cx dX7_taken_58 rfl flj_281 ?_
          refine G_iload_n (q := 62) cx dX7_taken_61 rfl rfl ?_
          refine G_ialdK (q := 63) cx dX7_taken_62 rfl (fun g24 g25 => ?_)
          refine G_istore_n (q := 64) (ls' := [(3, .int (kaK.getD x3_13.toNatClampNeg 0)), (4, .int x4_13), (0, .ref (ad 7 0)), (1, .int a1), (2, .int a2)]) cx dX7_taken_63 rfl rfl (Nat.le_of_ble_eq_true rfl) rfl ?_
          refine G_iinc (q := 67) (j := 1) (v := x4_13 + 1) (ls' := [(4, .int (x4_13 + 1)), (3, .int (kaK.getD x3_13.toNatClampNeg 0)), (0, .ref (ad 7 0)), (1, .int a1), (2, .int a2)]) cx dX7_taken_64 rfl rfl rfl (Nat.le_of_ble_eq_true rfl) rfl ?_
          refine G_goto (t := 37) cx dX7_taken_67 (by decide) ?_
          exact G_loc [1, 0, 2, 3, 4] rfl (ih_13 (kaK.getD x3_13.toNatClampNeg 0) (x4_13 + 1) S19)
      refine G_loc [1, 0, 2, 3, 4] rfl (lp_13 _ (fun y3_13 y4_13 T_13 => ?_) 1000 (gI S7 3 (6 * 0 + a1.toNatClampNeg) 2) (0 : Int32) S7)
      refine G_iload_n (q := 71) cx dX7_taken_70 rfl rfl ?_
      refine G_iload_n (q := 72) cx dX7_taken_71 rfl rfl ?_
      refine G_icmp_ne (q := 75) (t := 90) cx dX7_taken_72 rfl (by decide) (fun c14 => ?_) (fun c14 => ?_)
      · refine G_bipush (q := 92) (v := (-12 : Int32)) cx dX7_taken_90 rfl (by decide) ?_
        exact G_iret cx rfl dX7_taken_92 trivial
      refine G_aload_n (q := 76) cx dX7_taken_75 rfl rfl ?_
      refine G_getr (q := 79) (g := 5) (i' := 0) cx dX7_taken_76 rfl cf_7 fl_RX7_23 (Nat.le_of_ble_eq_true rfl) rfl rfl (Nat.le_of_ble_eq_true rfl) ?_
      refine G_getr (q := 82) (g := 12) (i' := 0) cx dX7_taken_79 rfl cf_5 fl_RX7_84 (Nat.le_of_ble_eq_true rfl) rfl rfl (Nat.le_of_ble_eq_true rfl) ?_
      refine G_iload_n (q := 83) cx dX7_taken_82 rfl rfl ?_
      refine G_aaldL (q := 84) cx dX7_taken_83 rfl (Nat.le_of_ble_eq_true rfl) (fun g15 g16 => ?_)
      refine G_geti (q := 87) cx dX7_taken_84 rfl cf_3 fl_RX7_97 (Nat.le_of_ble_eq_true rfl) rfl (by show 6 * 0 + a1.toNatClampNeg < 12; omega) ?_
      refine G_goto (t := 92) cx dX7_taken_87 (by decide) ?_
      exact G_iret cx rfl dX7_taken_92 trivial
    · refine G_bipush (q := 20) (v := (-11 : Int32)) cx dX7_taken_18 rfl (by decide) ?_
      exact G_iret cx rfl dX7_taken_20 trivial
  · refine G_bipush (q := 9) (v := (-2 : Int32)) cx dX7_taken_7 rfl (by decide) ?_
    exact G_iret cx rfl dX7_taken_9 trivial
def F_X7_count (S : St) (a1 : Int32) : Option (Int32 × St) :=
  if a1 = 0 then (some (gI S 5 0 5, S))
  else (if a1 = 1 then (some (gI S 7 0 8, S))
  else (if a1 = 2 then (some (gI S 4 0 2, S))
  else (if a1 = 3 then (some (gI S 4 1 2, S))
  else (if a1 = 4 then (some (gI S 4 2 2, S))
  else (if a1 = 5 then (some (gI S 1 0 1, S))
  else (if a1 = 6 then (some (gI S 7 0 9, S))
  else (some ((-2 : Int32), S))))))))
set_option maxRecDepth 10000 in
theorem c_X7_count (l : Launch) {D : va_G} {cy : Nat → ClassId} {ad : Nat → Nat → Nat} {k : Nat} (hJ : wJ ad (nX k)) (S : St) (a1 : Int32) : CT l yX7_count cX7_count 2 (some .int) 0 D cy ad (nX k) toI okT [.ref (ad 7 0), .int a1] S (F_X7_count S a1) := by
  refine CT.of RX7 (by decide) rfl hJ (Nat.le_of_ble_eq_true rfl) rfl ?_
  intro p e s m below meth c cx
  unfold F_X7_count
  refine G_iload_n (q := 1) cx dX7_count_0 rfl rfl ?_
  refine G_case (fun w1 => ?_) (fun w1 => ?_)
  · refine G_tswIn (t := 44) (off := 43) cx dX7_count_1 w1 (by decide) (by decide) (by decide) (by decide) ?_
    refine G_aload_n (q := 45) cx dX7_count_44 rfl rfl ?_
    refine G_getr (q := 48) (g := 5) (i' := 0) cx dX7_count_45 rfl cf_7 fl_RX7_23 (Nat.le_of_ble_eq_true rfl) rfl rfl (Nat.le_of_ble_eq_true rfl) ?_
    refine G_geti (q := 51) cx dX7_count_48 rfl cf_5 fl_RX7_81 (Nat.le_of_ble_eq_true rfl) rfl (Nat.le_of_ble_eq_true rfl) ?_
    exact G_iret cx rfl dX7_count_51 trivial
  refine G_case (fun w2 => ?_) (fun w2 => ?_)
  · refine G_tswIn (t := 52) (off := 51) cx dX7_count_1 w2 (by decide) (by decide) (by decide) (by decide) ?_
    refine G_aload_n (q := 53) cx dX7_count_52 rfl rfl ?_
    refine G_geti (q := 56) cx dX7_count_53 rfl cf_7 fl_RX7_58 (Nat.le_of_ble_eq_true rfl) rfl (Nat.le_of_ble_eq_true rfl) ?_
    exact G_iret cx rfl dX7_count_56 trivial
  refine G_case (fun w3 => ?_) (fun w3 => ?_)
  · refine G_tswIn (t := 57) (off := 56) cx dX7_count_1 w3 (by decide) (by decide) (by decide) (by decide) ?_
    refine G_aload_n (q := 58) cx dX7_count_57 rfl rfl ?_
    refine G_getr (q := 61) (g := 5) (i' := 0) cx dX7_count_58 rfl cf_7 fl_RX7_23 (Nat.le_of_ble_eq_true rfl) rfl rfl (Nat.le_of_ble_eq_true rfl) ?_
    refine G_getr (q := 64) (g := 4) (i' := 0) cx dX7_count_61 rfl cf_5 fl_RX7_214 (Nat.le_of_ble_eq_true rfl) rfl rfl (Nat.le_of_ble_eq_true rfl) ?_
    refine G_geti (q := 67) cx dX7_count_64 rfl cf_4 fl_RX7_222 (Nat.le_of_ble_eq_true rfl) rfl (Nat.le_of_ble_eq_true rfl) ?_
    exact G_iret cx rfl dX7_count_67 trivial
  refine G_case (fun w4 => ?_) (fun w4 => ?_)
  · refine G_tswIn (t := 68) (off := 67) cx dX7_count_1 w4 (by decide) (by decide) (by decide) (by decide) ?_
    refine G_aload_n (q := 69) cx dX7_count_68 rfl rfl ?_
    refine G_getr (q := 72) (g := 5) (i' := 0) cx dX7_count_69 rfl cf_7 fl_RX7_23 (Nat.le_of_ble_eq_true rfl) rfl rfl (Nat.le_of_ble_eq_true rfl) ?_
    refine G_getr (q := 75) (g := 4) (i' := 1) cx dX7_count_72 rfl cf_5 fl_RX7_232 (Nat.le_of_ble_eq_true rfl) rfl rfl (Nat.le_of_ble_eq_true rfl) ?_
    refine G_geti (q := 78) cx dX7_count_75 rfl cf_4 fl_RX7_222 (Nat.le_of_ble_eq_true rfl) rfl (Nat.le_of_ble_eq_true rfl) ?_
    exact G_iret cx rfl dX7_count_78 trivial
  refine G_case (fun w5 => ?_) (fun w5 => ?_)
  · refine G_tswIn (t := 79) (off := 78) cx dX7_count_1 w5 (by decide) (by decide) (by decide) (by decide) ?_
    refine G_aload_n (q := 80) cx dX7_count_79 rfl rfl ?_
    refine G_getr (q := 83) (g := 5) (i' := 0) cx dX7_count_80 rfl cf_7 fl_RX7_23 (Nat.le_of_ble_eq_true rfl) rfl rfl (Nat.le_of_ble_eq_true rfl) ?_
    refine G_getr (q := 86) (g := 4) (i' := 2) cx dX7_count_83 rfl cf_5 fl_RX7_248 (Nat.le_of_ble_eq_true rfl) rfl rfl (Nat.le_of_ble_eq_true rfl) ?_
    refine G_geti (q := 89) cx dX7_count_86 rfl cf_4 fl_RX7_222 (Nat.le_of_ble_eq_true rfl) rfl (Nat.le_of_ble_eq_true rfl) ?_
    exact G_iret cx rfl dX7_count_89 trivial
  refine G_case (fun w6 => ?_) (fun w6 => ?_)
  · refine G_tswIn (t := 90) (off := 89) cx dX7_count_1 w6 (by decide) (by decide) (by decide) (by decide) ?_
    refine G_aload_n (q := 91) cx dX7_count_90 rfl rfl ?_
    refine G_getr (q := 94) (g := 1) (i' := 0) cx dX7_count_91 rfl cf_7 fl_RX7_40 (Nat.le_of_ble_eq_true rfl) rfl rfl (Nat.le_of_ble_eq_true rfl) ?_
    refine G_geti (q := 97) cx dX7_count_94 rfl cf_1 fl_RX7_131 (Nat.le_of_ble_eq_true rfl) rfl (Nat.le_of_ble_eq_true rfl) ?_
    exact G_iret cx rfl dX7_count_97 trivial
  refine G_case (fun w7 => ?_) (fun w7 => ?_)
  · refine G_tswIn (t := 98) (off := 97) cx dX7_count_1 w7 (by decide) (by decide) (by decide) (by decide) ?_
    refine G_aload_n (q := 99) cx dX7_count_98 rfl rfl ?_
    refine G_geti (q := 102) cx dX7_count_99 rfl cf_7 fl_RX7_62 (Nat.le_of_ble_eq_true rfl) rfl (Nat.le_of_ble_eq_true rfl) ?_
    exact G_iret cx rfl dX7_count_102 trivial
  have hz1_0 := lv_neT w1 (show (0 : Int32).toInt = 0 by decide)
  have hz1_1 := lv_neT w2 (show (1 : Int32).toInt = 1 by decide)
  have hz1_2 := lv_neT w3 (show (2 : Int32).toInt = 2 by decide)
  have hz1_3 := lv_neT w4 (show (3 : Int32).toInt = 3 by decide)
  have hz1_4 := lv_neT w5 (show (4 : Int32).toInt = 4 by decide)
  have hz1_5 := lv_neT w6 (show (5 : Int32).toInt = 5 by decide)
  have hz1_6 := lv_neT w7 (show (6 : Int32).toInt = 6 by decide)
  refine G_tswOut (t := 103) cx dX7_count_1 (by omega) (by decide) ?_
  refine G_bipush (q := 105) (v := (-2 : Int32)) cx dX7_count_103 rfl (by decide) ?_
  exact G_iret cx rfl dX7_count_105 trivial
def F_X7_tape (S : St) (a1 : Int32) (a2 : Int32) (a3 : Int32) : Option (Int32 × St) :=
  bnd (F_X7_isTape S a1) (fun r1 S2 =>
  if r1 = 0 then (some ((-1 : Int32), S2))
  else (if a2 = (-1 : Int32) then (if 0 ≤ a1 ∧ a1.toNatClampNeg < 6 then (bnd (F_X6_begin S2 a1.toNatClampNeg a2 (0 : Int32)) (fun r22 S23 =>
  some ((1 : Int32), S23)))
  else none)
  else (bnd (F_X7_isWithin S2 a2 (0 : Int32) (4 : Int32)) (fun r7 S8 =>
  if r7 = 0 then (some ((-2 : Int32), S8))
  else (if a3 ≤ (60 : Int32) then (if 0 ≤ a3 then (if 0 ≤ a1 ∧ a1.toNatClampNeg < 6 then (bnd (F_X6_begin S8 a1.toNatClampNeg a2 a3) (fun r16 S17 =>
  some ((1 : Int32), S17)))
  else none)
  else (some ((-14 : Int32), S8)))
  else (some ((-2 : Int32), S8)))))))
set_option maxRecDepth 10000 in
theorem c_X7_tape (l : Launch) {D : va_G} {cy : Nat → ClassId} {ad : Nat → Nat → Nat} {k : Nat} (hJ : wJ ad (nX k)) (S : St) (a1 : Int32) (a2 : Int32) (a3 : Int32) : CT l yX7_tape cX7_tape 4 (some .int) 2 D cy ad (nX k) toI okT [.ref (ad 7 0), .int a1, .int a2, .int a3] S (F_X7_tape S a1 a2 a3) := by
  refine CT.of RX7 (by decide) rfl hJ (Nat.le_of_ble_eq_true rfl) rfl ?_
  intro p e s m below meth c cx
  unfold F_X7_tape
  refine G_iload_n (q := 1) cx dX7_tape_0 rfl rfl ?_
  refine G_callS (q := 4) (d' := 1) (As := [.int a1]) (rest := []) (stk := fun r1 => [.int r1]) cx dX7_tape_1 rfl ml_RX7_251 rfl rfl (Nat.le_of_ble_eq_true rfl) (Nat.le_of_ble_eq_true rfl) (Nat.le_of_ble_eq_true rfl) (c_X7_isTape l hJ _ a1) (fun _ => rfl) (fun r1 S2 h3 o4 => ?_)
  refine G_if_ne (q := 7) (t := 9) cx dX7_tape_4 rfl (by decide) (fun c5 => ?_) (fun c5 => ?_)
  · refine G_iload_n (q := 10) cx dX7_tape_9 rfl rfl ?_
    refine G_iconst (q := 11) (v := (-1 : Int32)) cx dX7_tape_10 rfl (by decide) ?_
    refine G_icmp_ne (q := 14) (t := 27) cx dX7_tape_11 rfl (by decide) (fun c6 => ?_) (fun c6 => ?_)
    · refine G_iload_n (q := 28) cx dX7_tape_27 rfl rfl ?_
      refine G_iconst (q := 29) (v := (0 : Int32)) cx dX7_tape_28 rfl (by decide) ?_
      refine G_iconst (q := 30) (v := (4 : Int32)) cx dX7_tape_29 rfl (by decide) ?_
      refine G_callS (q := 33) (d' := 0) (As := [.int a2, .int (0 : Int32), .int (4 : Int32)]) (rest := []) (stk := fun r7 => [.int r7]) cx dX7_tape_30 rfl ml_RX7_74 rfl rfl (Nat.le_of_ble_eq_true rfl) (Nat.le_of_ble_eq_true rfl) (Nat.le_of_ble_eq_true rfl) (c_X7_isWithin l hJ _ a2 (0 : Int32) (4 : Int32)) (fun _ => rfl) (fun r7 S8 h9 o10 => ?_)
      refine G_if_eq (q := 36) (t := 42) cx dX7_tape_33 rfl (by decide) (fun c11 => ?_) (fun c11 => ?_)
      · refine G_bipush (q := 44) (v := (-2 : Int32)) cx dX7_tape_42 rfl (by decide) ?_
        exact G_iret cx rfl dX7_tape_44 trivial
      refine G_iload_n (q := 37) cx dX7_tape_36 rfl rfl ?_
      refine G_bipush (q := 39) (v := (60 : Int32)) cx dX7_tape_37 rfl (by decide) ?_
      refine G_icmp_le (q := 42) (t := 45) cx dX7_tape_39 rfl (by decide) (fun c12 => ?_) (fun c12 => ?_)
      · refine G_iload_n (q := 46) cx dX7_tape_45 rfl rfl ?_
        refine G_if_ge (q := 49) (t := 52) cx dX7_tape_46 rfl (by decide) (fun c13 => ?_) (fun c13 => ?_)
        · refine G_aload_n (q := 53) cx dX7_tape_52 rfl rfl ?_
          refine G_getr (q := 56) (g := 11) (i' := 0) cx dX7_tape_53 rfl cf_7 fl_RX7_54 (Nat.le_of_ble_eq_true rfl) rfl rfl (Nat.le_of_ble_eq_true rfl) ?_
          refine G_iload_n (q := 57) cx dX7_tape_56 rfl rfl ?_
          refine G_aaldT (q := 58) cx dX7_tape_57 rfl (Nat.le_of_ble_eq_true rfl) (fun g14 g15 => ?_)
          refine G_iload_n (q := 59) cx dX7_tape_58 rfl rfl ?_
          refine G_iload_n (q := 60) cx dX7_tape_59 rfl rfl ?_
          refine G_callV (q := 63) (d' := 1) (f := 6) (i := a1.toNatClampNeg) (As := [.int a2, .int a3]) (rest := []) (stk := fun _ => []) cx dX7_tape_60 rfl cf_6 (by show a1.toNatClampNeg < 6; omega) ml_RX7_284 rfl rfl (Nat.le_of_ble_eq_true rfl) (Nat.le_of_ble_eq_true rfl) (Nat.le_of_ble_eq_true rfl) (c_X6_begin l hJ _ a1.toNatClampNeg a2 a3 (by show a1.toNatClampNeg < 6; omega)) (fun _ => rfl) (fun r16 S17 h18 o19 => ?_)
          refine G_iconst (q := 64) (v := (1 : Int32)) cx dX7_tape_63 rfl (by decide) ?_
          exact G_iret cx rfl dX7_tape_64 trivial
        · refine G_bipush (q := 51) (v := (-14 : Int32)) cx dX7_tape_49 rfl (by decide) ?_
          exact G_iret cx rfl dX7_tape_51 trivial
      · refine G_bipush (q := 44) (v := (-2 : Int32)) cx dX7_tape_42 rfl (by decide) ?_
        exact G_iret cx rfl dX7_tape_44 trivial
    refine G_aload_n (q := 15) cx dX7_tape_14 rfl rfl ?_
    refine G_getr (q := 18) (g := 11) (i' := 0) cx dX7_tape_15 rfl cf_7 fl_RX7_54 (Nat.le_of_ble_eq_true rfl) rfl rfl (Nat.le_of_ble_eq_true rfl) ?_
    refine G_iload_n (q := 19) cx dX7_tape_18 rfl rfl ?_
    refine G_aaldT (q := 20) cx dX7_tape_19 rfl (Nat.le_of_ble_eq_true rfl) (fun g20 g21 => ?_)
    refine G_iload_n (q := 21) cx dX7_tape_20 rfl rfl ?_
    refine G_iconst (q := 22) (v := (0 : Int32)) cx dX7_tape_21 rfl (by decide) ?_
    refine G_callV (q := 25) (d' := 1) (f := 6) (i := a1.toNatClampNeg) (As := [.int a2, .int (0 : Int32)]) (rest := []) (stk := fun _ => []) cx dX7_tape_22 rfl cf_6 (by show a1.toNatClampNeg < 6; omega) ml_RX7_284 rfl rfl (Nat.le_of_ble_eq_true rfl) (Nat.le_of_ble_eq_true rfl) (Nat.le_of_ble_eq_true rfl) (c_X6_begin l hJ _ a1.toNatClampNeg a2 (0 : Int32) (by show a1.toNatClampNeg < 6; omega)) (fun _ => rfl) (fun r22 S23 h24 o25 => ?_)
    refine G_iconst (q := 26) (v := (1 : Int32)) cx dX7_tape_25 rfl (by decide) ?_
    exact G_iret cx rfl dX7_tape_26 trivial
  · refine G_iconst (q := 8) (v := (-1 : Int32)) cx dX7_tape_7 rfl (by decide) ?_
    exact G_iret cx rfl dX7_tape_8 trivial
def F_X7_item (S : St) (a1 : Int32) (a2 : Int32) (a3 : Int64) : Option (Int32 × St) :=
  bnd (F_X7_isTape S a1) (fun r1 S2 =>
  if r1 = 0 then (some ((-1 : Int32), S2))
  else (if 0 ≤ a1 ∧ a1.toNatClampNeg < 6 then (bnd (F_X6_holds S2 a1.toNatClampNeg) (fun r8 S9 =>
  if r8 = 0 then (some ((-11 : Int32), S9))
  else (if a2 < 0 then (some ((-13 : Int32), S9))
  else (if a2 < (gI S9 6 a1.toNatClampNeg 2) then (bnd (F_X6_cut S9 a1.toNatClampNeg a3) (fun r15 S16 =>
  if 0 ≤ a2 ∧ a2.toNatClampNeg < 60 then (some ((1 : Int32), (sJ S16 18 a1.toNatClampNeg a2.toNatClampNeg r15)))
  else none))
  else (some ((-13 : Int32), S9))))))
  else none))
set_option maxRecDepth 10000 in
theorem c_X7_item (l : Launch) {D : va_G} {cy : Nat → ClassId} {ad : Nat → Nat → Nat} {k : Nat} (hJ : wJ ad (nX k)) (S : St) (a1 : Int32) (a2 : Int32) (a3 : Int64) : CT l yX7_item cX7_item 6 (some .int) 2 D cy ad (nX k) toI okT [.ref (ad 7 0), .int a1, .int a2, .long a3] S (F_X7_item S a1 a2 a3) := by
  refine CT.of RX7 (by decide) rfl hJ (Nat.le_of_ble_eq_true rfl) rfl ?_
  intro p e s m below meth c cx
  unfold F_X7_item
  refine G_iload_n (q := 1) cx dX7_item_0 rfl rfl ?_
  refine G_callS (q := 4) (d' := 1) (As := [.int a1]) (rest := []) (stk := fun r1 => [.int r1]) cx dX7_item_1 rfl ml_RX7_251 rfl rfl (Nat.le_of_ble_eq_true rfl) (Nat.le_of_ble_eq_true rfl) (Nat.le_of_ble_eq_true rfl) (c_X7_isTape l hJ _ a1) (fun _ => rfl) (fun r1 S2 h3 o4 => ?_)
  refine G_if_ne (q := 7) (t := 9) cx dX7_item_4 rfl (by decide) (fun c5 => ?_) (fun c5 => ?_)
  · refine G_aload_n (q := 10) cx dX7_item_9 rfl rfl ?_
    refine G_getr (q := 13) (g := 11) (i' := 0) cx dX7_item_10 rfl cf_7 fl_RX7_54 (Nat.le_of_ble_eq_true rfl) rfl rfl (Nat.le_of_ble_eq_true rfl) ?_
    refine G_iload_n (q := 14) cx dX7_item_13 rfl rfl ?_
    refine G_aaldT (q := 15) cx dX7_item_14 rfl (Nat.le_of_ble_eq_true rfl) (fun g6 g7 => ?_)
    refine G_astore (q := 17) (ls' := [(5, .ref (ad 6 a1.toNatClampNeg)), (0, .ref (ad 7 0)), (1, .int a1), (2, .int a2), (3, .long a3)]) cx dX7_item_15 rfl (Nat.le_of_ble_eq_true rfl) rfl ?_
    refine G_aload (q := 19) cx dX7_item_17 rfl rfl ?_
    refine G_callV (q := 22) (d' := 0) (f := 6) (i := a1.toNatClampNeg) (As := []) (rest := []) (stk := fun r8 => [.int r8]) cx dX7_item_19 rfl cf_6 (by show a1.toNatClampNeg < 6; omega) ml_RX7_254 rfl rfl (Nat.le_of_ble_eq_true rfl) (Nat.le_of_ble_eq_true rfl) (Nat.le_of_ble_eq_true rfl) (c_X6_holds l hJ _ a1.toNatClampNeg (by show a1.toNatClampNeg < 6; omega)) (fun _ => rfl) (fun r8 S9 h10 o11 => ?_)
    refine G_if_ne (q := 25) (t := 28) cx dX7_item_22 rfl (by decide) (fun c12 => ?_) (fun c12 => ?_)
    · refine G_iload_n (q := 29) cx dX7_item_28 rfl rfl ?_
      refine G_if_lt (q := 32) (t := 41) cx dX7_item_29 rfl (by decide) (fun c13 => ?_) (fun c13 => ?_)
      · refine G_bipush (q := 43) (v := (-13 : Int32)) cx dX7_item_41 rfl (by decide) ?_
        exact G_iret cx rfl dX7_item_43 trivial
      refine G_iload_n (q := 33) cx dX7_item_32 rfl rfl ?_
      refine G_aload (q := 35) cx dX7_item_33 rfl rfl ?_
      refine G_geti (q := 38) cx dX7_item_35 rfl cf_6 fl_RX7_261 (Nat.le_of_ble_eq_true rfl) rfl (by show a1.toNatClampNeg < 6; omega) ?_
      refine G_icmp_lt (q := 41) (t := 44) cx dX7_item_38 rfl (by decide) (fun c14 => ?_) (fun c14 => ?_)
      · refine G_aload (q := 46) cx dX7_item_44 rfl rfl ?_
        refine G_getr (q := 49) (g := 18) (i' := a1.toNatClampNeg) cx dX7_item_46 rfl cf_6 fl_RX7_264 (Nat.le_of_ble_eq_true rfl) rfl rfl (by show a1.toNatClampNeg < 6; omega) ?_
        refine G_iload_n (q := 50) cx dX7_item_49 rfl rfl ?_
        refine G_aload (q := 52) cx dX7_item_50 rfl rfl ?_
        refine G_lload_n (q := 53) cx dX7_item_52 rfl rfl ?_
        refine G_callV (q := 56) (d' := 0) (f := 6) (i := a1.toNatClampNeg) (As := [.long a3]) (rest := [.int a2, .ref (ad 18 a1.toNatClampNeg)]) (stk := fun r15 => [.long r15, .int a2, .ref (ad 18 a1.toNatClampNeg)]) cx dX7_item_53 rfl cf_6 (by show a1.toNatClampNeg < 6; omega) ml_RX7_287 rfl rfl (Nat.le_of_ble_eq_true rfl) (Nat.le_of_ble_eq_true rfl) (Nat.le_of_ble_eq_true rfl) (c_X6_cut l hJ _ a1.toNatClampNeg a3 (by show a1.toNatClampNeg < 6; omega)) (fun _ => rfl) (fun r15 S16 h17 o18 => ?_)
        refine G_last (q := 57) cx dX7_item_56 rfl (by decide) rfl rfl (by show a1.toNatClampNeg < 6; omega) (fun g19 g20 => ?_)
        refine G_iconst (q := 58) (v := (1 : Int32)) cx dX7_item_57 rfl (by decide) ?_
        exact G_iret cx rfl dX7_item_58 trivial
      · refine G_bipush (q := 43) (v := (-13 : Int32)) cx dX7_item_41 rfl (by decide) ?_
        exact G_iret cx rfl dX7_item_43 trivial
    · refine G_bipush (q := 27) (v := (-11 : Int32)) cx dX7_item_25 rfl (by decide) ?_
      exact G_iret cx rfl dX7_item_27 trivial
  · refine G_iconst (q := 8) (v := (-1 : Int32)) cx dX7_item_7 rfl (by decide) ?_
    exact G_iret cx rfl dX7_item_8 trivial
def F_X7_read (S : St) (a1 : Int32) (a2 : Int32) : Option (Int64 × St) :=
  bnd (F_X7_isTape S a1) (fun r1 S2 =>
  if r1 = 0 then (some ((-9223372036854775808 : Int64), S2))
  else (if a2 < 0 then (some ((-9223372036854775808 : Int64), S2))
  else (if 0 ≤ a1 ∧ a1.toNatClampNeg < 6 then (if a2 < (gI S2 6 a1.toNatClampNeg 2) then (if 0 ≤ a1 ∧ a1.toNatClampNeg < 6 then (if 0 ≤ a2 ∧ a2.toNatClampNeg < 60 then (some (gJ S2 18 a1.toNatClampNeg a2.toNatClampNeg, S2))
  else none)
  else none)
  else (some ((-9223372036854775808 : Int64), S2)))
  else none)))
set_option maxRecDepth 10000 in
theorem c_X7_read (l : Launch) {D : va_G} {cy : Nat → ClassId} {ad : Nat → Nat → Nat} {k : Nat} (hJ : wJ ad (nX k)) (S : St) (a1 : Int32) (a2 : Int32) : CT l yX7_read cX7_read 3 (some .long) 2 D cy ad (nX k) toJ okT [.ref (ad 7 0), .int a1, .int a2] S (F_X7_read S a1 a2) := by
  refine CT.of RX7 (by decide) rfl hJ (Nat.le_of_ble_eq_true rfl) rfl ?_
  intro p e s m below meth c cx
  unfold F_X7_read
  refine G_iload_n (q := 1) cx dX7_read_0 rfl rfl ?_
  refine G_callS (q := 4) (d' := 1) (As := [.int a1]) (rest := []) (stk := fun r1 => [.int r1]) cx dX7_read_1 rfl ml_RX7_251 rfl rfl (Nat.le_of_ble_eq_true rfl) (Nat.le_of_ble_eq_true rfl) (Nat.le_of_ble_eq_true rfl) (c_X7_isTape l hJ _ a1) (fun _ => rfl) (fun r1 S2 h3 o4 => ?_)
  refine G_if_eq (q := 7) (t := 24) cx dX7_read_4 rfl (by decide) (fun c5 => ?_) (fun c5 => ?_)
  · refine G_ldc2_w (q := 27) (v := (-9223372036854775808 : Int64)) cx dX7_read_24 rfl (inG (inT 650 (by decide +kernel)) rfl) ?_
    exact G_lret cx rfl dX7_read_27 trivial
  refine G_iload_n (q := 8) cx dX7_read_7 rfl rfl ?_
  refine G_if_lt (q := 11) (t := 24) cx dX7_read_8 rfl (by decide) (fun c6 => ?_) (fun c6 => ?_)
  · refine G_ldc2_w (q := 27) (v := (-9223372036854775808 : Int64)) cx dX7_read_24 rfl (inG (inT 650 (by decide +kernel)) rfl) ?_
    exact G_lret cx rfl dX7_read_27 trivial
  refine G_iload_n (q := 12) cx dX7_read_11 rfl rfl ?_
  refine G_aload_n (q := 13) cx dX7_read_12 rfl rfl ?_
  refine G_getr (q := 16) (g := 11) (i' := 0) cx dX7_read_13 rfl cf_7 fl_RX7_54 (Nat.le_of_ble_eq_true rfl) rfl rfl (Nat.le_of_ble_eq_true rfl) ?_
  refine G_iload_n (q := 17) cx dX7_read_16 rfl rfl ?_
  refine G_aaldT (q := 18) cx dX7_read_17 rfl (Nat.le_of_ble_eq_true rfl) (fun g7 g8 => ?_)
  refine G_geti (q := 21) cx dX7_read_18 rfl cf_6 fl_RX7_261 (Nat.le_of_ble_eq_true rfl) rfl (by show a1.toNatClampNeg < 6; omega) ?_
  refine G_icmp_lt (q := 24) (t := 28) cx dX7_read_21 rfl (by decide) (fun c9 => ?_) (fun c9 => ?_)
  · refine G_aload_n (q := 29) cx dX7_read_28 rfl rfl ?_
    refine G_getr (q := 32) (g := 11) (i' := 0) cx dX7_read_29 rfl cf_7 fl_RX7_54 (Nat.le_of_ble_eq_true rfl) rfl rfl (Nat.le_of_ble_eq_true rfl) ?_
    refine G_iload_n (q := 33) cx dX7_read_32 rfl rfl ?_
    refine G_aaldT (q := 34) cx dX7_read_33 rfl (Nat.le_of_ble_eq_true rfl) (fun g10 g11 => ?_)
    refine G_getr (q := 37) (g := 18) (i' := a1.toNatClampNeg) cx dX7_read_34 rfl cf_6 fl_RX7_264 (Nat.le_of_ble_eq_true rfl) rfl rfl (by show a1.toNatClampNeg < 6; omega) ?_
    refine G_iload_n (q := 38) cx dX7_read_37 rfl rfl ?_
    refine G_lald (q := 39) cx dX7_read_38 rfl (by decide) rfl rfl (by show a1.toNatClampNeg < 6; omega) (fun g12 g13 => ?_)
    exact G_lret cx rfl dX7_read_39 trivial
  · refine G_ldc2_w (q := 27) (v := (-9223372036854775808 : Int64)) cx dX7_read_24 rfl (inG (inT 650 (by decide +kernel)) rfl) ?_
    exact G_lret cx rfl dX7_read_27 trivial
def F_X7_shift (S : St) (a1 : Int32) (a2 : Int32) (a3 : Int32) (a4 : Int32) (a5 : Int32) : Option (Int32 × St) :=
  bnd (F_X7_isTape S a1) (fun r1 S2 =>
  if r1 = 0 then (some ((-1 : Int32), S2))
  else (bnd (F_X7_isTape S2 a3) (fun r6 S7 =>
  if r6 = 0 then (some ((-1 : Int32), S7))
  else (if 0 ≤ a1 ∧ a1.toNatClampNeg < 6 then (if 0 ≤ a3 ∧ a3.toNatClampNeg < 6 then (bnd (F_X6_holds S7 a1.toNatClampNeg) (fun r15 S16 =>
  if r15 = 0 then (some ((-11 : Int32), S16))
  else (bnd (F_X6_holds S16 a3.toNatClampNeg) (fun r20 S21 =>
  if r20 = 0 then (some ((-11 : Int32), S21))
  else (if (gI S21 6 a1.toNatClampNeg 1) = (gI S21 6 a3.toNatClampNeg 1) then (if a5 < 0 then (some ((-13 : Int32), S21))
  else (if a2 < 0 then (some ((-13 : Int32), S21))
  else (if a4 < 0 then (some ((-13 : Int32), S21))
  else (if ((gI S21 6 a1.toNatClampNeg 2) - a5) < a2 then (some ((-13 : Int32), S21))
  else (if a4 ≤ ((gI S21 6 a3.toNatClampNeg 2) - a5) then (if 0 ≤ a2 ∧ 0 ≤ a4 ∧ 0 ≤ a5 ∧ a2.toNatClampNeg + a5.toNatClampNeg ≤ 60 ∧ a4.toNatClampNeg + a5.toNatClampNeg ≤ 60 then (some (a5, (cJ S21 18 a3.toNatClampNeg (va_cpy (gJ S21 18 a1.toNatClampNeg) (gJ S21 18 a3.toNatClampNeg) a2.toNatClampNeg a4.toNatClampNeg a5.toNatClampNeg))))
  else none)
  else (some ((-13 : Int32), S21)))))))
  else (some ((-12 : Int32), S21)))))))
  else none)
  else none))))
set_option maxRecDepth 10000 in
theorem c_X7_shift (l : Launch) {D : va_G} {cy : Nat → ClassId} {ad : Nat → Nat → Nat} {k : Nat} (hJ : wJ ad (nX k)) (S : St) (a1 : Int32) (a2 : Int32) (a3 : Int32) (a4 : Int32) (a5 : Int32) : CT l yX7_shift cX7_shift 8 (some .int) 2 D cy ad (nX k) toI okT [.ref (ad 7 0), .int a1, .int a2, .int a3, .int a4, .int a5] S (F_X7_shift S a1 a2 a3 a4 a5) := by
  refine CT.of RX7 (by decide) rfl hJ (Nat.le_of_ble_eq_true rfl) rfl ?_
  intro p e s m below meth c cx
  unfold F_X7_shift
  refine G_iload_n (q := 1) cx dX7_shift_0 rfl rfl ?_
  refine G_callS (q := 4) (d' := 1) (As := [.int a1]) (rest := []) (stk := fun r1 => [.int r1]) cx dX7_shift_1 rfl ml_RX7_251 rfl rfl (Nat.le_of_ble_eq_true rfl) (Nat.le_of_ble_eq_true rfl) (Nat.le_of_ble_eq_true rfl) (c_X7_isTape l hJ _ a1) (fun _ => rfl) (fun r1 S2 h3 o4 => ?_)
  refine G_if_eq (q := 7) (t := 14) cx dX7_shift_4 rfl (by decide) (fun c5 => ?_) (fun c5 => ?_)
  · refine G_iconst (q := 15) (v := (-1 : Int32)) cx dX7_shift_14 rfl (by decide) ?_
    exact G_iret cx rfl dX7_shift_15 trivial
  refine G_iload_n (q := 8) cx dX7_shift_7 rfl rfl ?_
  refine G_callS (q := 11) (d' := 1) (As := [.int a3]) (rest := []) (stk := fun r6 => [.int r6]) cx dX7_shift_8 rfl ml_RX7_251 rfl rfl (Nat.le_of_ble_eq_true rfl) (Nat.le_of_ble_eq_true rfl) (Nat.le_of_ble_eq_true rfl) (c_X7_isTape l hJ _ a3) (fun _ => rfl) (fun r6 S7 h8 o9 => ?_)
  refine G_if_ne (q := 14) (t := 16) cx dX7_shift_11 rfl (by decide) (fun c10 => ?_) (fun c10 => ?_)
  · refine G_aload_n (q := 17) cx dX7_shift_16 rfl rfl ?_
    refine G_getr (q := 20) (g := 11) (i' := 0) cx dX7_shift_17 rfl cf_7 fl_RX7_54 (Nat.le_of_ble_eq_true rfl) rfl rfl (Nat.le_of_ble_eq_true rfl) ?_
    refine G_iload_n (q := 21) cx dX7_shift_20 rfl rfl ?_
    refine G_aaldT (q := 22) cx dX7_shift_21 rfl (Nat.le_of_ble_eq_true rfl) (fun g11 g12 => ?_)
    refine G_astore (q := 24) (ls' := [(6, .ref (ad 6 a1.toNatClampNeg)), (0, .ref (ad 7 0)), (1, .int a1), (2, .int a2), (3, .int a3), (4, .int a4), (5, .int a5)]) cx dX7_shift_22 rfl (Nat.le_of_ble_eq_true rfl) rfl ?_
    refine G_aload_n (q := 25) cx dX7_shift_24 rfl rfl ?_
    refine G_getr (q := 28) (g := 11) (i' := 0) cx dX7_shift_25 rfl cf_7 fl_RX7_54 (Nat.le_of_ble_eq_true rfl) rfl rfl (Nat.le_of_ble_eq_true rfl) ?_
    refine G_iload_n (q := 29) cx dX7_shift_28 rfl rfl ?_
    refine G_aaldT (q := 30) cx dX7_shift_29 rfl (Nat.le_of_ble_eq_true rfl) (fun g13 g14 => ?_)
    refine G_astore (q := 32) (ls' := [(7, .ref (ad 6 a3.toNatClampNeg)), (6, .ref (ad 6 a1.toNatClampNeg)), (0, .ref (ad 7 0)), (1, .int a1), (2, .int a2), (3, .int a3), (4, .int a4), (5, .int a5)]) cx dX7_shift_30 rfl (Nat.le_of_ble_eq_true rfl) rfl ?_
    refine G_aload (q := 34) cx dX7_shift_32 rfl rfl ?_
    refine G_callV (q := 37) (d' := 0) (f := 6) (i := a1.toNatClampNeg) (As := []) (rest := []) (stk := fun r15 => [.int r15]) cx dX7_shift_34 rfl cf_6 (by show a1.toNatClampNeg < 6; omega) ml_RX7_254 rfl rfl (Nat.le_of_ble_eq_true rfl) (Nat.le_of_ble_eq_true rfl) (Nat.le_of_ble_eq_true rfl) (c_X6_holds l hJ _ a1.toNatClampNeg (by show a1.toNatClampNeg < 6; omega)) (fun _ => rfl) (fun r15 S16 h17 o18 => ?_)
    refine G_if_eq (q := 40) (t := 48) cx dX7_shift_37 rfl (by decide) (fun c19 => ?_) (fun c19 => ?_)
    · refine G_bipush (q := 50) (v := (-11 : Int32)) cx dX7_shift_48 rfl (by decide) ?_
      exact G_iret cx rfl dX7_shift_50 trivial
    refine G_aload (q := 42) cx dX7_shift_40 rfl rfl ?_
    refine G_callV (q := 45) (d' := 0) (f := 6) (i := a3.toNatClampNeg) (As := []) (rest := []) (stk := fun r20 => [.int r20]) cx dX7_shift_42 rfl cf_6 (by show a3.toNatClampNeg < 6; omega) ml_RX7_254 rfl rfl (Nat.le_of_ble_eq_true rfl) (Nat.le_of_ble_eq_true rfl) (Nat.le_of_ble_eq_true rfl) (c_X6_holds l hJ _ a3.toNatClampNeg (by show a3.toNatClampNeg < 6; omega)) (fun _ => rfl) (fun r20 S21 h22 o23 => ?_)
    refine G_if_ne (q := 48) (t := 51) cx dX7_shift_45 rfl (by decide) (fun c24 => ?_) (fun c24 => ?_)
    · refine G_aload (q := 53) cx dX7_shift_51 rfl rfl ?_
      refine G_geti (q := 56) cx dX7_shift_53 rfl cf_6 fl_RX7_258 (Nat.le_of_ble_eq_true rfl) rfl (by show a1.toNatClampNeg < 6; omega) ?_
      refine G_aload (q := 58) cx dX7_shift_56 rfl rfl ?_
      refine G_geti (q := 61) cx dX7_shift_58 rfl cf_6 fl_RX7_258 (Nat.le_of_ble_eq_true rfl) rfl (by show a3.toNatClampNeg < 6; omega) ?_
      refine G_icmp_eq (q := 64) (t := 67) cx dX7_shift_61 rfl (by decide) (fun c25 => ?_) (fun c25 => ?_)
      · refine G_iload (q := 69) cx dX7_shift_67 rfl rfl ?_
        refine G_if_lt (q := 72) (t := 106) cx dX7_shift_69 rfl (by decide) (fun c26 => ?_) (fun c26 => ?_)
        · refine G_bipush (q := 108) (v := (-13 : Int32)) cx dX7_shift_106 rfl (by decide) ?_
          exact G_iret cx rfl dX7_shift_108 trivial
        refine G_iload_n (q := 73) cx dX7_shift_72 rfl rfl ?_
        refine G_if_lt (q := 76) (t := 106) cx dX7_shift_73 rfl (by decide) (fun c27 => ?_) (fun c27 => ?_)
        · refine G_bipush (q := 108) (v := (-13 : Int32)) cx dX7_shift_106 rfl (by decide) ?_
          exact G_iret cx rfl dX7_shift_108 trivial
        refine G_iload (q := 78) cx dX7_shift_76 rfl rfl ?_
        refine G_if_lt (q := 81) (t := 106) cx dX7_shift_78 rfl (by decide) (fun c28 => ?_) (fun c28 => ?_)
        · refine G_bipush (q := 108) (v := (-13 : Int32)) cx dX7_shift_106 rfl (by decide) ?_
          exact G_iret cx rfl dX7_shift_108 trivial
        refine G_iload_n (q := 82) cx dX7_shift_81 rfl rfl ?_
        refine G_aload (q := 84) cx dX7_shift_82 rfl rfl ?_
        refine G_geti (q := 87) cx dX7_shift_84 rfl cf_6 fl_RX7_261 (Nat.le_of_ble_eq_true rfl) rfl (by show a1.toNatClampNeg < 6; omega) ?_
        refine G_iload (q := 89) cx dX7_shift_87 rfl rfl ?_
        refine G_isub (q := 90) cx dX7_shift_89 rfl ?_
        refine G_icmp_gt (q := 93) (t := 106) cx dX7_shift_90 rfl (by decide) (fun c29 => ?_) (fun c29 => ?_)
        · refine G_bipush (q := 108) (v := (-13 : Int32)) cx dX7_shift_106 rfl (by decide) ?_
          exact G_iret cx rfl dX7_shift_108 trivial
        refine G_iload (q := 95) cx dX7_shift_93 rfl rfl ?_
        refine G_aload (q := 97) cx dX7_shift_95 rfl rfl ?_
        refine G_geti (q := 100) cx dX7_shift_97 rfl cf_6 fl_RX7_261 (Nat.le_of_ble_eq_true rfl) rfl (by show a3.toNatClampNeg < 6; omega) ?_
        refine G_iload (q := 102) cx dX7_shift_100 rfl rfl ?_
        refine G_isub (q := 103) cx dX7_shift_102 rfl ?_
        refine G_icmp_le (q := 106) (t := 109) cx dX7_shift_103 rfl (by decide) (fun c30 => ?_) (fun c30 => ?_)
        · refine G_aload (q := 111) cx dX7_shift_109 rfl rfl ?_
          refine G_getr (q := 114) (g := 18) (i' := a1.toNatClampNeg) cx dX7_shift_111 rfl cf_6 fl_RX7_264 (Nat.le_of_ble_eq_true rfl) rfl rfl (by show a1.toNatClampNeg < 6; omega) ?_
          refine G_iload_n (q := 115) cx dX7_shift_114 rfl rfl ?_
          refine G_aload (q := 117) cx dX7_shift_115 rfl rfl ?_
          refine G_getr (q := 120) (g := 18) (i' := a3.toNatClampNeg) cx dX7_shift_117 rfl cf_6 fl_RX7_264 (Nat.le_of_ble_eq_true rfl) rfl rfl (by show a3.toNatClampNeg < 6; omega) ?_
          refine G_iload (q := 122) cx dX7_shift_120 rfl rfl ?_
          refine G_iload (q := 124) cx dX7_shift_122 rfl rfl ?_
          refine G_copyJ (q := 127) cx dX7_shift_124 rfl cpw_RX7_291 (by decide) (by decide) rfl rfl rfl rfl (by show a1.toNatClampNeg < 6; omega) (by show a3.toNatClampNeg < 6; omega) (Nat.le_of_ble_eq_true rfl) (Nat.le_of_ble_eq_true rfl) (fun g31 => ?_)
          refine G_iload (q := 129) cx dX7_shift_127 rfl rfl ?_
          exact G_iret cx rfl dX7_shift_129 trivial
        · refine G_bipush (q := 108) (v := (-13 : Int32)) cx dX7_shift_106 rfl (by decide) ?_
          exact G_iret cx rfl dX7_shift_108 trivial
      · refine G_bipush (q := 66) (v := (-12 : Int32)) cx dX7_shift_64 rfl (by decide) ?_
        exact G_iret cx rfl dX7_shift_66 trivial
    · refine G_bipush (q := 50) (v := (-11 : Int32)) cx dX7_shift_48 rfl (by decide) ?_
      exact G_iret cx rfl dX7_shift_50 trivial
  · refine G_iconst (q := 15) (v := (-1 : Int32)) cx dX7_shift_14 rfl (by decide) ?_
    exact G_iret cx rfl dX7_shift_15 trivial
