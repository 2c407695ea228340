def F_X7_lowest (S : St) (a1 : Int32) (a2 : Int32) : Option (Int32 × St) :=
  bnd (F_X7_isLift S a1) (fun r1 S2 =>
  if r1 = 0 then (some ((-1 : Int32), S2))
  else (bnd (F_X7_isPace S2 a2) (fun r6 S7 =>
  if r6 = 0 then (some ((-2 : Int32), S7))
  else (if 0 ≤ a1 ∧ a1.toNatClampNeg < 6 then (bnd (F_X7_heightFor S7 (gI S7 2 0 0) (gI S7 3 (6 * 0 + a1.toNatClampNeg) 4) a2) (fun r13 S14 =>
  if r13 ≤ (400 : Int32) then (some (r13, S14))
  else (some ((-5 : Int32), S14))))
  else none))))
set_option maxRecDepth 10000 in
theorem c_X7_lowest (l : Launch) {D : va_G} {cy : Nat → ClassId} {ad : Nat → Nat → Nat} {k : Nat} (hJ : wJ ad (nX k)) (S : St) (a1 : Int32) (a2 : Int32) : CT l yX7_lowest cX7_lowest 4 (some .int) 2 D cy ad (nX k) toI okT [.ref (ad 7 0), .int a1, .int a2] S (F_X7_lowest S a1 a2) := by
  refine CT.of RX7 (by decide) rfl hJ (Nat.le_of_ble_eq_true rfl) rfl ?_
  intro p e s m below meth c cx
  unfold F_X7_lowest
  refine G_aload_n (q := 1) cx dX7_lowest_0 rfl rfl ?_
  refine G_iload_n (q := 2) cx dX7_lowest_1 rfl rfl ?_
  refine G_callV (q := 5) (d' := 0) (f := 7) (i := 0) (As := [.int a1]) (rest := []) (stk := fun r1 => [.int r1]) cx dX7_lowest_2 rfl cf_7 (Nat.le_of_ble_eq_true rfl) ml_RX7_94 rfl rfl (Nat.le_of_ble_eq_true rfl) (Nat.le_of_ble_eq_true rfl) (Nat.le_of_ble_eq_true rfl) (c_X7_isLift l hJ _ a1) (fun _ => rfl) (fun r1 S2 h3 o4 => ?_)
  refine G_if_ne (q := 8) (t := 10) cx dX7_lowest_5 rfl (by decide) (fun c5 => ?_) (fun c5 => ?_)
  · refine G_iload_n (q := 11) cx dX7_lowest_10 rfl rfl ?_
    refine G_callS (q := 14) (d' := 1) (As := [.int a2]) (rest := []) (stk := fun r6 => [.int r6]) cx dX7_lowest_11 rfl ml_RX7_162 rfl rfl (Nat.le_of_ble_eq_true rfl) (Nat.le_of_ble_eq_true rfl) (Nat.le_of_ble_eq_true rfl) (c_X7_isPace l hJ _ a2) (fun _ => rfl) (fun r6 S7 h8 o9 => ?_)
    refine G_if_ne (q := 17) (t := 20) cx dX7_lowest_14 rfl (by decide) (fun c10 => ?_) (fun c10 => ?_)
    · refine G_aload_n (q := 21) cx dX7_lowest_20 rfl rfl ?_
      refine G_aload_n (q := 22) cx dX7_lowest_21 rfl rfl ?_
      refine G_getr (q := 25) (g := 5) (i' := 0) cx dX7_lowest_22 rfl cf_7 fl_RX7_23 (Nat.le_of_ble_eq_true rfl) rfl rfl (Nat.le_of_ble_eq_true rfl) ?_
      refine G_getr (q := 28) (g := 2) (i' := 0) cx dX7_lowest_25 rfl cf_5 fl_RX7_112 (Nat.le_of_ble_eq_true rfl) rfl rfl (Nat.le_of_ble_eq_true rfl) ?_
      refine G_geti (q := 31) cx dX7_lowest_28 rfl cf_2 fl_RX7_148 (Nat.le_of_ble_eq_true rfl) rfl (Nat.le_of_ble_eq_true rfl) ?_
      refine G_aload_n (q := 32) cx dX7_lowest_31 rfl rfl ?_
      refine G_getr (q := 35) (g := 5) (i' := 0) cx dX7_lowest_32 rfl cf_7 fl_RX7_23 (Nat.le_of_ble_eq_true rfl) rfl rfl (Nat.le_of_ble_eq_true rfl) ?_
      refine G_getr (q := 38) (g := 12) (i' := 0) cx dX7_lowest_35 rfl cf_5 fl_RX7_84 (Nat.le_of_ble_eq_true rfl) rfl rfl (Nat.le_of_ble_eq_true rfl) ?_
      refine G_iload_n (q := 39) cx dX7_lowest_38 rfl rfl ?_
      refine G_aaldL (q := 40) cx dX7_lowest_39 rfl (Nat.le_of_ble_eq_true rfl) (fun g11 g12 => ?_)
      refine G_geti (q := 43) cx dX7_lowest_40 rfl cf_3 fl_RX7_103 (Nat.le_of_ble_eq_true rfl) rfl (by show 6 * 0 + a1.toNatClampNeg < 12; omega) ?_
      refine G_iload_n (q := 44) cx dX7_lowest_43 rfl rfl ?_
      refine G_callV (q := 47) (d' := 1) (f := 7) (i := 0) (As := [.int (gI S7 2 0 0), .int (gI S7 3 (6 * 0 + a1.toNatClampNeg) 4), .int a2]) (rest := []) (stk := fun r13 => [.int r13]) cx dX7_lowest_44 rfl cf_7 (Nat.le_of_ble_eq_true rfl) ml_RX7_192 rfl rfl (Nat.le_of_ble_eq_true rfl) (Nat.le_of_ble_eq_true rfl) (Nat.le_of_ble_eq_true rfl) (c_X7_heightFor l hJ _ (gI S7 2 0 0) (gI S7 3 (6 * 0 + a1.toNatClampNeg) 4) a2) (fun _ => rfl) (fun r13 S14 h15 o16 => ?_)
      refine G_istore_n (q := 48) (ls' := [(3, .int r13), (0, .ref (ad 7 0)), (1, .int a1), (2, .int a2)]) cx dX7_lowest_47 rfl rfl (Nat.le_of_ble_eq_true rfl) rfl ?_
      refine G_iload_n (q := 49) cx dX7_lowest_48 rfl rfl ?_
      refine G_sipush (q := 52) (v := (400 : Int32)) cx dX7_lowest_49 rfl (by decide) ?_
      refine G_icmp_le (q := 55) (t := 60) cx dX7_lowest_52 rfl (by decide) (fun c17 => ?_) (fun c17 => ?_)
      · refine G_iload_n (q := 61) cx dX7_lowest_60 rfl rfl ?_
        exact G_iret cx rfl dX7_lowest_61 trivial
      · refine G_bipush (q := 57) (v := (-5 : Int32)) cx dX7_lowest_55 rfl (by decide) ?_
        refine G_goto (t := 61) cx dX7_lowest_57 (by decide) ?_
        exact G_iret cx rfl dX7_lowest_61 trivial
    · refine G_bipush (q := 19) (v := (-2 : Int32)) cx dX7_lowest_17 rfl (by decide) ?_
      exact G_iret cx rfl dX7_lowest_19 trivial
  · refine G_iconst (q := 9) (v := (-1 : Int32)) cx dX7_lowest_8 rfl (by decide) ?_
    exact G_iret cx rfl dX7_lowest_9 trivial
def L_X7_risesToLeave_32 (a1 : Nat) (a4 : Int32) (r6 : Int32) (K_10 : Int32 → St → Option (Int32 × St)) : Nat → Int32 → St → Option (Int32 × St)
  | 0, _, _ => none
  | n + 1, x6_10, S_10 =>
    if a4 ≤ x6_10 then (K_10 x6_10 S_10)
    else (if r6 ≤ (gI S_10 2 2 1) then (K_10 x6_10 S_10)
    else ((gR S_10 5 0 8).elim none
    (fun p14 => bnd (F_X2_circles S_10 2 a1 p14 (1 : Int32)) (fun r17 S18 =>
    L_X7_risesToLeave_32 a1 a4 r6 K_10 n (x6_10 + 1) S18))))
def F_X7_risesToLeave (S : St) (a1 : Nat) (a2 : Int32) (a3 : Int32) (a4 : Int32) : Option (Int32 × St) :=
  bnd (F_X2_glides S 2 (gI S 3 a1 4) a2) (fun r1 S2 =>
  if r1 = 0 then (some ((0 : Int32), S2))
  else (bnd (F_X7_heightFor S2 (gI S2 3 a1 4) a3 a2) (fun r6 S7 =>
  L_X7_risesToLeave_32 a1 a4 r6 
  (fun y6_10 T_10 => if (gI T_10 2 2 1) < r6 then (some ((0 : Int32), T_10))
  else (some ((1 : Int32), T_10))) 1000 (0 : Int32) S7)))
set_option maxRecDepth 10000 in
theorem c_X7_risesToLeave (l : Launch) {D : va_G} {cy : Nat → ClassId} {ad : Nat → Nat → Nat} {k : Nat} (hJ : wJ ad (nX k)) (S : St) (a1 : Nat) (a2 : Int32) (a3 : Int32) (a4 : Int32) (h_a1 : a1 < 12) : CT l yX7_risesToLeave cX7_risesToLeave 7 (some .boolean) 5 D cy ad (nX k) toI okZ [.ref (ad 7 0), .ref (ad 3 a1), .int a2, .int a3, .int a4] S (F_X7_risesToLeave S a1 a2 a3 a4) := by
  refine CT.of RX7 (by decide) rfl hJ (Nat.le_of_ble_eq_true rfl) rfl ?_
  intro p e s m below meth c cx
  unfold F_X7_risesToLeave
  refine G_aload_n (q := 1) cx dX7_risesToLeave_0 rfl rfl ?_
  refine G_getr (q := 4) (g := 2) (i' := 2) cx dX7_risesToLeave_1 rfl cf_7 fl_RX7_33 (Nat.le_of_ble_eq_true rfl) rfl rfl (Nat.le_of_ble_eq_true rfl) ?_
  refine G_aload_n (q := 5) cx dX7_risesToLeave_4 rfl rfl ?_
  refine G_geti (q := 8) cx dX7_risesToLeave_5 rfl cf_3 fl_RX7_103 (Nat.le_of_ble_eq_true rfl) rfl h_a1 ?_
  refine G_iload_n (q := 9) cx dX7_risesToLeave_8 rfl rfl ?_
  refine G_callV (q := 12) (d' := 1) (f := 2) (i := 2) (As := [.int (gI S 3 a1 4), .int a2]) (rest := []) (stk := fun r1 => [.int r1]) cx dX7_risesToLeave_9 rfl cf_2 (Nat.le_of_ble_eq_true rfl) ml_RX7_169 rfl rfl (Nat.le_of_ble_eq_true rfl) (Nat.le_of_ble_eq_true rfl) (Nat.le_of_ble_eq_true rfl) (c_X2_glides l hJ _ 2 (gI S 3 a1 4) a2 (Nat.le_of_ble_eq_true rfl)) (fun _ => rfl) (fun r1 S2 h3 o4 => ?_)
  refine G_if_ne (q := 15) (t := 17) cx dX7_risesToLeave_12 rfl (by decide) (fun c5 => ?_) (fun c5 => ?_)
  · refine G_aload_n (q := 18) cx dX7_risesToLeave_17 rfl rfl ?_
    refine G_aload_n (q := 19) cx dX7_risesToLeave_18 rfl rfl ?_
    refine G_geti (q := 22) cx dX7_risesToLeave_19 rfl cf_3 fl_RX7_103 (Nat.le_of_ble_eq_true rfl) rfl h_a1 ?_
    refine G_iload_n (q := 23) cx dX7_risesToLeave_22 rfl rfl ?_
    refine G_iload_n (q := 24) cx dX7_risesToLeave_23 rfl rfl ?_
    refine G_callV (q := 27) (d' := 1) (f := 7) (i := 0) (As := [.int (gI S2 3 a1 4), .int a3, .int a2]) (rest := []) (stk := fun r6 => [.int r6]) cx dX7_risesToLeave_24 rfl cf_7 (Nat.le_of_ble_eq_true rfl) ml_RX7_192 rfl rfl (Nat.le_of_ble_eq_true rfl) (Nat.le_of_ble_eq_true rfl) (Nat.le_of_ble_eq_true rfl) (c_X7_heightFor l hJ _ (gI S2 3 a1 4) a3 a2) (fun _ => rfl) (fun r6 S7 h8 o9 => ?_)
    refine G_istore (q := 29) (ls' := [(5, .int r6), (0, .ref (ad 7 0)), (1, .ref (ad 3 a1)), (2, .int a2), (3, .int a3), (4, .int a4)]) cx dX7_risesToLeave_27 rfl (Nat.le_of_ble_eq_true rfl) rfl ?_
    refine G_iconst (q := 30) (v := (0 : Int32)) cx dX7_risesToLeave_29 rfl (by decide) ?_
    refine G_istore (q := 32) (ls' := [(6, .int (0 : Int32)), (5, .int r6), (0, .ref (ad 7 0)), (1, .ref (ad 3 a1)), (2, .int a2), (3, .int a3), (4, .int a4)]) cx dX7_risesToLeave_30 rfl (Nat.le_of_ble_eq_true rfl) rfl ?_
    have lp_10 : ∀ (K_10 : Int32 → St → Option (Int32 × St)) (hK_10 : ∀ (y6_10 : Int32) (T_10 : St), TG p l e 5 s m ([.ref (ad 7 0), .ref (ad 3 a1), .int a2, .int a3, .int a4] : List Value).toArray below meth c D cy ad (nX k) toI okZ T_10 73 [(6, .int y6_10), (5, .int r6), (0, .ref (ad 7 0)), (1, .ref (ad 3 a1)), (2, .int a2), (3, .int a3), (4, .int a4)] [] (K_10 y6_10 T_10)), ∀ (n_10 : Nat) (x6_10 : Int32) (S_10 : St), TG p l e 5 s m ([.ref (ad 7 0), .ref (ad 3 a1), .int a2, .int a3, .int a4] : List Value).toArray below meth c D cy ad (nX k) toI okZ S_10 32 [(6, .int x6_10), (5, .int r6), (0, .ref (ad 7 0)), (1, .ref (ad 3 a1)), (2, .int a2), (3, .int a3), (4, .int a4)] [] (L_X7_risesToLeave_32 a1 a4 r6 K_10 n_10 x6_10 S_10) := by
      intro K_10 hK_10 n_10
      induction n_10 with
      | zero => intros; exact G_none
      | succ n_10 ih_10 =>
        intro x6_10 S_10
        rw [L_X7_risesToLeave_32.eq_2]
        refine G_iload (q := 34) cx dX7_risesToLeave_32 rfl rfl ?_
        refine G_iload (q := 36) cx dX7_risesToLeave_34 rfl rfl ?_
        refine G_icmp_ge (q := 39) (t := 73) cx dX7_risesToLeave_36 rfl (by decide) (fun c12 => ?_) (fun c12 => ?_)
        · exact G_loc [0, 1, 2, 3, 4, 5, 6] rfl (hK_10 x6_10 S_10)
        refine G_aload_n (q := 40) cx dX7_risesToLeave_39 rfl rfl ?_
        refine G_getr (q := 43) (g := 2) (i' := 2) cx dX7_risesToLeave_40 rfl cf_7 fl_RX7_33 (Nat.le_of_ble_eq_true rfl) rfl rfl (Nat.le_of_ble_eq_true rfl) ?_
        refine G_geti (q := 46) cx dX7_risesToLeave_43 rfl cf_2 fl_RX7_115 (Nat.le_of_ble_eq_true rfl) rfl (Nat.le_of_ble_eq_true rfl) ?_
        refine G_iload (q := 48) cx dX7_risesToLeave_46 rfl rfl ?_
        refine G_icmp_ge (q := 51) (t := 73) cx dX7_risesToLeave_48 rfl (by decide) (fun c13 => ?_) (fun c13 => ?_)
        · exact G_loc [0, 1, 2, 3, 4, 5, 6] rfl (hK_10 x6_10 S_10)
        refine G_aload_n (q := 52) cx dX7_risesToLeave_51 rfl rfl ?_
        refine G_getr (q := 55) (g := 2) (i' := 2) cx dX7_risesToLeave_52 rfl cf_7 fl_RX7_33 (Nat.le_of_ble_eq_true rfl) rfl rfl (Nat.le_of_ble_eq_true rfl) ?_
        refine G_aload_n (q := 56) cx dX7_risesToLeave_55 rfl rfl ?_
        refine G_aload_n (q := 57) cx dX7_risesToLeave_56 rfl rfl ?_
        refine G_getr (q := 60) (g := 5) (i' := 0) cx dX7_risesToLeave_57 rfl cf_7 fl_RX7_23 (Nat.le_of_ble_eq_true rfl) rfl rfl (Nat.le_of_ble_eq_true rfl) ?_
        refine G_geta (q := 63) cx dX7_risesToLeave_60 rfl cf_5 fl_RX7_109 (Nat.le_of_ble_eq_true rfl) rfl (Nat.le_of_ble_eq_true rfl) (fun e15 => ?_) (fun p14 e16 h_p14 => ?_)
        · exact G_none
        refine G_iconst (q := 64) (v := (1 : Int32)) cx dX7_risesToLeave_63 rfl (by decide) ?_
        refine G_callV (q := 67) (d' := 4) (f := 2) (i := 2) (As := [.ref (ad 3 a1), .ref (ad 0 p14), .int (1 : Int32)]) (rest := []) (stk := fun _ => []) cx dX7_risesToLeave_64 rfl cf_2 (Nat.le_of_ble_eq_true rfl) ml_RX7_158 rfl rfl (Nat.le_of_ble_eq_true rfl) (Nat.le_of_ble_eq_true rfl) (Nat.le_of_ble_eq_true rfl) (c_X2_circles l hJ _ 2 a1 p14 (1 : Int32) (Nat.le_of_ble_eq_true rfl) h_a1 h_p14) (fun _ => rfl) (fun r17 S18 h19 o20 => ?_)
        refine G_iinc (q := 70) (j := 0) (v := x6_10 + 1) (ls' := [(6, .int (x6_10 + 1)), (5, .int r6), (0, .ref (ad 7 0)), (1, .ref (ad 3 a1)), (2, .int a2), (3, .int a3), (4, .int a4)]) cx dX7_risesToLeave_67 rfl rfl rfl (Nat.le_of_ble_eq_true rfl) rfl ?_
        refine G_goto (t := 32) cx dX7_risesToLeave_70 (by decide) ?_
        exact G_loc [0, 1, 2, 3, 4, 5, 6] rfl (ih_10 (x6_10 + 1) S18)
    refine G_loc [0, 1, 2, 3, 4, 5, 6] rfl (lp_10 _ (fun y6_10 T_10 => ?_) 1000 (0 : Int32) S7)
    refine G_aload_n (q := 74) cx dX7_risesToLeave_73 rfl rfl ?_
    refine G_getr (q := 77) (g := 2) (i' := 2) cx dX7_risesToLeave_74 rfl cf_7 fl_RX7_33 (Nat.le_of_ble_eq_true rfl) rfl rfl (Nat.le_of_ble_eq_true rfl) ?_
    refine G_geti (q := 80) cx dX7_risesToLeave_77 rfl cf_2 fl_RX7_115 (Nat.le_of_ble_eq_true rfl) rfl (Nat.le_of_ble_eq_true rfl) ?_
    refine G_iload (q := 82) cx dX7_risesToLeave_80 rfl rfl ?_
    refine G_icmp_lt (q := 85) (t := 89) cx dX7_risesToLeave_82 rfl (by decide) (fun c11 => ?_) (fun c11 => ?_)
    · refine G_iconst (q := 90) (v := (0 : Int32)) cx dX7_risesToLeave_89 rfl (by decide) ?_
      exact G_zret (ty := .boolean) cx rfl dX7_risesToLeave_90 rfl rfl
    · refine G_iconst (q := 86) (v := (1 : Int32)) cx dX7_risesToLeave_85 rfl (by decide) ?_
      refine G_goto (t := 90) cx dX7_risesToLeave_86 (by decide) ?_
      exact G_zret (ty := .boolean) cx rfl dX7_risesToLeave_90 rfl rfl
  · refine G_iconst (q := 16) (v := (0 : Int32)) cx dX7_risesToLeave_15 rfl (by decide) ?_
    exact G_zret (ty := .boolean) cx rfl dX7_risesToLeave_16 rfl rfl
def F_X7_minutesHome (S : St) (a1 : Int32) : Option (Int32 × St) :=
  bnd (F_X2_glides S 2 (gI S 5 0 7) a1) (fun r1 S2 =>
  if r1 = 0 then (some ((1000000000 : Int32), S2))
  else (some ((gI S2 2 2 2) - (gI S2 2 0 2), S2)))
set_option maxRecDepth 10000 in
theorem c_X7_minutesHome (l : Launch) {D : va_G} {cy : Nat → ClassId} {ad : Nat → Nat → Nat} {k : Nat} (hJ : wJ ad (nX k)) (S : St) (a1 : Int32) : CT l yX7_minutesHome cX7_minutesHome 2 (some .int) 2 D cy ad (nX k) toI okT [.ref (ad 7 0), .int a1] S (F_X7_minutesHome S a1) := by
  refine CT.of RX7 (by decide) rfl hJ (Nat.le_of_ble_eq_true rfl) rfl ?_
  intro p e s m below meth c cx
  unfold F_X7_minutesHome
  refine G_aload_n (q := 1) cx dX7_minutesHome_0 rfl rfl ?_
  refine G_getr (q := 4) (g := 2) (i' := 2) cx dX7_minutesHome_1 rfl cf_7 fl_RX7_33 (Nat.le_of_ble_eq_true rfl) rfl rfl (Nat.le_of_ble_eq_true rfl) ?_
  refine G_aload_n (q := 5) cx dX7_minutesHome_4 rfl rfl ?_
  refine G_getr (q := 8) (g := 5) (i' := 0) cx dX7_minutesHome_5 rfl cf_7 fl_RX7_23 (Nat.le_of_ble_eq_true rfl) rfl rfl (Nat.le_of_ble_eq_true rfl) ?_
  refine G_geti (q := 11) cx dX7_minutesHome_8 rfl cf_5 fl_RX7_145 (Nat.le_of_ble_eq_true rfl) rfl (Nat.le_of_ble_eq_true rfl) ?_
  refine G_iload_n (q := 12) cx dX7_minutesHome_11 rfl rfl ?_
  refine G_callV (q := 15) (d' := 1) (f := 2) (i := 2) (As := [.int (gI S 5 0 7), .int a1]) (rest := []) (stk := fun r1 => [.int r1]) cx dX7_minutesHome_12 rfl cf_2 (Nat.le_of_ble_eq_true rfl) ml_RX7_169 rfl rfl (Nat.le_of_ble_eq_true rfl) (Nat.le_of_ble_eq_true rfl) (Nat.le_of_ble_eq_true rfl) (c_X2_glides l hJ _ 2 (gI S 5 0 7) a1 (Nat.le_of_ble_eq_true rfl)) (fun _ => rfl) (fun r1 S2 h3 o4 => ?_)
  refine G_if_eq (q := 18) (t := 39) cx dX7_minutesHome_15 rfl (by decide) (fun c5 => ?_) (fun c5 => ?_)
  · refine G_ldc (q := 41) (v := (1000000000 : Int32)) cx dX7_minutesHome_39 rfl (inG (inT 590 (by decide +kernel)) rfl) ?_
    exact G_iret cx rfl dX7_minutesHome_41 trivial
  refine G_aload_n (q := 19) cx dX7_minutesHome_18 rfl rfl ?_
  refine G_getr (q := 22) (g := 2) (i' := 2) cx dX7_minutesHome_19 rfl cf_7 fl_RX7_33 (Nat.le_of_ble_eq_true rfl) rfl rfl (Nat.le_of_ble_eq_true rfl) ?_
  refine G_geti (q := 25) cx dX7_minutesHome_22 rfl cf_2 fl_RX7_118 (Nat.le_of_ble_eq_true rfl) rfl (Nat.le_of_ble_eq_true rfl) ?_
  refine G_aload_n (q := 26) cx dX7_minutesHome_25 rfl rfl ?_
  refine G_getr (q := 29) (g := 5) (i' := 0) cx dX7_minutesHome_26 rfl cf_7 fl_RX7_23 (Nat.le_of_ble_eq_true rfl) rfl rfl (Nat.le_of_ble_eq_true rfl) ?_
  refine G_getr (q := 32) (g := 2) (i' := 0) cx dX7_minutesHome_29 rfl cf_5 fl_RX7_112 (Nat.le_of_ble_eq_true rfl) rfl rfl (Nat.le_of_ble_eq_true rfl) ?_
  refine G_geti (q := 35) cx dX7_minutesHome_32 rfl cf_2 fl_RX7_118 (Nat.le_of_ble_eq_true rfl) rfl (Nat.le_of_ble_eq_true rfl) ?_
  refine G_isub (q := 36) cx dX7_minutesHome_35 rfl ?_
  refine G_goto (t := 41) cx dX7_minutesHome_36 (by decide) ?_
  exact G_iret cx rfl dX7_minutesHome_41 trivial
def F_X7_by (S : St) (a1 : Int32) (a2 : Int32) (a3 : Int32) : Option (Int32 × St) :=
  bnd (F_X7_isLift S a1) (fun r1 S2 =>
  if r1 = 0 then (some ((-1 : Int32), S2))
  else (bnd (F_X7_isWithin S2 a3 (0 : Int32) (1 : Int32)) (fun r6 S7 =>
  if r6 = 0 then (some ((-1 : Int32), S7))
  else (bnd (F_X7_isPace S7 a2) (fun r11 S12 =>
  if r11 = 0 then (some ((-2 : Int32), S12))
  else (bnd (F_X2_copyFrom S12 2 0) (fun r16 S17 =>
  if 0 ≤ a1 ∧ a1.toNatClampNeg < 6 then (bnd (F_X7_risesToLeave S17 (6 * 0 + a1.toNatClampNeg) a2 (gI S17 5 0 7) (60 : Int32)) (fun r22 S23 =>
  if r22 = 0 then (some ((-5 : Int32), S23))
  else (if a3 = 0 then (bnd (F_X7_minutesHome S23 a2) (fun r28 S29 =>
  some (r28, S29)))
  else (some (gI S23 2 2 1, S23)))))
  else none)))))))
set_option maxRecDepth 10000 in
theorem c_X7_by (l : Launch) {D : va_G} {cy : Nat → ClassId} {ad : Nat → Nat → Nat} {k : Nat} (hJ : wJ ad (nX k)) (S : St) (a1 : Int32) (a2 : Int32) (a3 : Int32) : CT l yX7_by cX7_by 4 (some .int) 6 D cy ad (nX k) toI okT [.ref (ad 7 0), .int a1, .int a2, .int a3] S (F_X7_by S a1 a2 a3) := by
  refine CT.of RX7 (by decide) rfl hJ (Nat.le_of_ble_eq_true rfl) rfl ?_
  intro p e s m below meth c cx
  unfold F_X7_by
  refine G_aload_n (q := 1) cx dX7_by_0 rfl rfl ?_
  refine G_iload_n (q := 2) cx dX7_by_1 rfl rfl ?_
  refine G_callV (q := 5) (d' := 0) (f := 7) (i := 0) (As := [.int a1]) (rest := []) (stk := fun r1 => [.int r1]) cx dX7_by_2 rfl cf_7 (Nat.le_of_ble_eq_true rfl) ml_RX7_94 rfl rfl (Nat.le_of_ble_eq_true rfl) (Nat.le_of_ble_eq_true rfl) (Nat.le_of_ble_eq_true rfl) (c_X7_isLift l hJ _ a1) (fun _ => rfl) (fun r1 S2 h3 o4 => ?_)
  refine G_if_eq (q := 8) (t := 17) cx dX7_by_5 rfl (by decide) (fun c5 => ?_) (fun c5 => ?_)
  · refine G_iconst (q := 18) (v := (-1 : Int32)) cx dX7_by_17 rfl (by decide) ?_
    exact G_iret cx rfl dX7_by_18 trivial
  refine G_iload_n (q := 9) cx dX7_by_8 rfl rfl ?_
  refine G_iconst (q := 10) (v := (0 : Int32)) cx dX7_by_9 rfl (by decide) ?_
  refine G_iconst (q := 11) (v := (1 : Int32)) cx dX7_by_10 rfl (by decide) ?_
  refine G_callS (q := 14) (d' := 0) (As := [.int a3, .int (0 : Int32), .int (1 : Int32)]) (rest := []) (stk := fun r6 => [.int r6]) cx dX7_by_11 rfl ml_RX7_74 rfl rfl (Nat.le_of_ble_eq_true rfl) (Nat.le_of_ble_eq_true rfl) (Nat.le_of_ble_eq_true rfl) (c_X7_isWithin l hJ _ a3 (0 : Int32) (1 : Int32)) (fun _ => rfl) (fun r6 S7 h8 o9 => ?_)
  refine G_if_ne (q := 17) (t := 19) cx dX7_by_14 rfl (by decide) (fun c10 => ?_) (fun c10 => ?_)
  · refine G_iload_n (q := 20) cx dX7_by_19 rfl rfl ?_
    refine G_callS (q := 23) (d' := 1) (As := [.int a2]) (rest := []) (stk := fun r11 => [.int r11]) cx dX7_by_20 rfl ml_RX7_162 rfl rfl (Nat.le_of_ble_eq_true rfl) (Nat.le_of_ble_eq_true rfl) (Nat.le_of_ble_eq_true rfl) (c_X7_isPace l hJ _ a2) (fun _ => rfl) (fun r11 S12 h13 o14 => ?_)
    refine G_if_ne (q := 26) (t := 29) cx dX7_by_23 rfl (by decide) (fun c15 => ?_) (fun c15 => ?_)
    · refine G_aload_n (q := 30) cx dX7_by_29 rfl rfl ?_
      refine G_getr (q := 33) (g := 2) (i' := 2) cx dX7_by_30 rfl cf_7 fl_RX7_33 (Nat.le_of_ble_eq_true rfl) rfl rfl (Nat.le_of_ble_eq_true rfl) ?_
      refine G_aload_n (q := 34) cx dX7_by_33 rfl rfl ?_
      refine G_getr (q := 37) (g := 5) (i' := 0) cx dX7_by_34 rfl cf_7 fl_RX7_23 (Nat.le_of_ble_eq_true rfl) rfl rfl (Nat.le_of_ble_eq_true rfl) ?_
      refine G_getr (q := 40) (g := 2) (i' := 0) cx dX7_by_37 rfl cf_5 fl_RX7_112 (Nat.le_of_ble_eq_true rfl) rfl rfl (Nat.le_of_ble_eq_true rfl) ?_
      refine G_callV (q := 43) (d' := 0) (f := 2) (i := 2) (As := [.ref (ad 2 0)]) (rest := []) (stk := fun _ => []) cx dX7_by_40 rfl cf_2 (Nat.le_of_ble_eq_true rfl) ml_RX7_165 rfl rfl (Nat.le_of_ble_eq_true rfl) (Nat.le_of_ble_eq_true rfl) (Nat.le_of_ble_eq_true rfl) (c_X2_copyFrom l hJ _ 2 0 (Nat.le_of_ble_eq_true rfl) (Nat.le_of_ble_eq_true rfl)) (fun _ => rfl) (fun r16 S17 h18 o19 => ?_)
      refine G_aload_n (q := 44) cx dX7_by_43 rfl rfl ?_
      refine G_aload_n (q := 45) cx dX7_by_44 rfl rfl ?_
      refine G_getr (q := 48) (g := 5) (i' := 0) cx dX7_by_45 rfl cf_7 fl_RX7_23 (Nat.le_of_ble_eq_true rfl) rfl rfl (Nat.le_of_ble_eq_true rfl) ?_
      refine G_getr (q := 51) (g := 12) (i' := 0) cx dX7_by_48 rfl cf_5 fl_RX7_84 (Nat.le_of_ble_eq_true rfl) rfl rfl (Nat.le_of_ble_eq_true rfl) ?_
      refine G_iload_n (q := 52) cx dX7_by_51 rfl rfl ?_
      refine G_aaldL (q := 53) cx dX7_by_52 rfl (Nat.le_of_ble_eq_true rfl) (fun g20 g21 => ?_)
      refine G_iload_n (q := 54) cx dX7_by_53 rfl rfl ?_
      refine G_aload_n (q := 55) cx dX7_by_54 rfl rfl ?_
      refine G_getr (q := 58) (g := 5) (i' := 0) cx dX7_by_55 rfl cf_7 fl_RX7_23 (Nat.le_of_ble_eq_true rfl) rfl rfl (Nat.le_of_ble_eq_true rfl) ?_
      refine G_geti (q := 61) cx dX7_by_58 rfl cf_5 fl_RX7_145 (Nat.le_of_ble_eq_true rfl) rfl (Nat.le_of_ble_eq_true rfl) ?_
      refine G_bipush (q := 63) (v := (60 : Int32)) cx dX7_by_61 rfl (by decide) ?_
      refine G_callV (q := 66) (d' := 5) (f := 7) (i := 0) (As := [.ref (ad 3 (6 * 0 + a1.toNatClampNeg)), .int a2, .int (gI S17 5 0 7), .int (60 : Int32)]) (rest := []) (stk := fun r22 => [.int r22]) cx dX7_by_63 rfl cf_7 (Nat.le_of_ble_eq_true rfl) ml_RX7_196 rfl rfl (Nat.le_of_ble_eq_true rfl) (Nat.le_of_ble_eq_true rfl) (Nat.le_of_ble_eq_true rfl) (c_X7_risesToLeave l hJ _ (6 * 0 + a1.toNatClampNeg) a2 (gI S17 5 0 7) (60 : Int32) (by show 6 * 0 + a1.toNatClampNeg < 12; omega)) (fun _ => rfl) (fun r22 S23 h24 o25 => ?_)
      refine G_if_ne (q := 69) (t := 72) cx dX7_by_66 rfl (by decide) (fun c26 => ?_) (fun c26 => ?_)
      · refine G_iload_n (q := 73) cx dX7_by_72 rfl rfl ?_
        refine G_if_ne (q := 76) (t := 84) cx dX7_by_73 rfl (by decide) (fun c27 => ?_) (fun c27 => ?_)
        · refine G_aload_n (q := 85) cx dX7_by_84 rfl rfl ?_
          refine G_getr (q := 88) (g := 2) (i' := 2) cx dX7_by_85 rfl cf_7 fl_RX7_33 (Nat.le_of_ble_eq_true rfl) rfl rfl (Nat.le_of_ble_eq_true rfl) ?_
          refine G_geti (q := 91) cx dX7_by_88 rfl cf_2 fl_RX7_115 (Nat.le_of_ble_eq_true rfl) rfl (Nat.le_of_ble_eq_true rfl) ?_
          exact G_iret cx rfl dX7_by_91 trivial
        refine G_aload_n (q := 77) cx dX7_by_76 rfl rfl ?_
        refine G_iload_n (q := 78) cx dX7_by_77 rfl rfl ?_
        refine G_callV (q := 81) (d' := 2) (f := 7) (i := 0) (As := [.int a2]) (rest := []) (stk := fun r28 => [.int r28]) cx dX7_by_78 rfl cf_7 (Nat.le_of_ble_eq_true rfl) ml_RX7_200 rfl rfl (Nat.le_of_ble_eq_true rfl) (Nat.le_of_ble_eq_true rfl) (Nat.le_of_ble_eq_true rfl) (c_X7_minutesHome l hJ _ a2) (fun _ => rfl) (fun r28 S29 h30 o31 => ?_)
        refine G_goto (t := 91) cx dX7_by_81 (by decide) ?_
        exact G_iret cx rfl dX7_by_91 trivial
      · refine G_bipush (q := 71) (v := (-5 : Int32)) cx dX7_by_69 rfl (by decide) ?_
        exact G_iret cx rfl dX7_by_71 trivial
    · refine G_bipush (q := 28) (v := (-2 : Int32)) cx dX7_by_26 rfl (by decide) ?_
      exact G_iret cx rfl dX7_by_28 trivial
  · refine G_iconst (q := 18) (v := (-1 : Int32)) cx dX7_by_17 rfl (by decide) ?_
    exact G_iret cx rfl dX7_by_18 trivial
def F_X7_straight (S : St) (a1 : Int32) : Option (Int32 × St) :=
  bnd (F_X7_isPace S a1) (fun r1 S2 =>
  if r1 = 0 then (some ((-2 : Int32), S2))
  else (bnd (F_X7_arrivesSafely S2 (gI S2 5 0 7) a1) (fun r6 S7 =>
  if r6 = 0 then (some ((-5 : Int32), S7))
  else (some ((gI S7 2 2 2) - (gI S7 2 0 2), S7)))))
set_option maxRecDepth 10000 in
theorem c_X7_straight (l : Launch) {D : va_G} {cy : Nat → ClassId} {ad : Nat → Nat → Nat} {k : Nat} (hJ : wJ ad (nX k)) (S : St) (a1 : Int32) : CT l yX7_straight cX7_straight 2 (some .int) 3 D cy ad (nX k) toI okT [.ref (ad 7 0), .int a1] S (F_X7_straight S a1) := by
  refine CT.of RX7 (by decide) rfl hJ (Nat.le_of_ble_eq_true rfl) rfl ?_
  intro p e s m below meth c cx
  unfold F_X7_straight
  refine G_iload_n (q := 1) cx dX7_straight_0 rfl rfl ?_
  refine G_callS (q := 4) (d' := 1) (As := [.int a1]) (rest := []) (stk := fun r1 => [.int r1]) cx dX7_straight_1 rfl ml_RX7_162 rfl rfl (Nat.le_of_ble_eq_true rfl) (Nat.le_of_ble_eq_true rfl) (Nat.le_of_ble_eq_true rfl) (c_X7_isPace l hJ _ a1) (fun _ => rfl) (fun r1 S2 h3 o4 => ?_)
  refine G_if_ne (q := 7) (t := 10) cx dX7_straight_4 rfl (by decide) (fun c5 => ?_) (fun c5 => ?_)
  · refine G_aload_n (q := 11) cx dX7_straight_10 rfl rfl ?_
    refine G_aload_n (q := 12) cx dX7_straight_11 rfl rfl ?_
    refine G_getr (q := 15) (g := 5) (i' := 0) cx dX7_straight_12 rfl cf_7 fl_RX7_23 (Nat.le_of_ble_eq_true rfl) rfl rfl (Nat.le_of_ble_eq_true rfl) ?_
    refine G_geti (q := 18) cx dX7_straight_15 rfl cf_5 fl_RX7_145 (Nat.le_of_ble_eq_true rfl) rfl (Nat.le_of_ble_eq_true rfl) ?_
    refine G_iload_n (q := 19) cx dX7_straight_18 rfl rfl ?_
    refine G_callV (q := 22) (d' := 2) (f := 7) (i := 0) (As := [.int (gI S2 5 0 7), .int a1]) (rest := []) (stk := fun r6 => [.int r6]) cx dX7_straight_19 rfl cf_7 (Nat.le_of_ble_eq_true rfl) ml_RX7_189 rfl rfl (Nat.le_of_ble_eq_true rfl) (Nat.le_of_ble_eq_true rfl) (Nat.le_of_ble_eq_true rfl) (c_X7_arrivesSafely l hJ _ (gI S2 5 0 7) a1) (fun _ => rfl) (fun r6 S7 h8 o9 => ?_)
    refine G_if_eq (q := 25) (t := 46) cx dX7_straight_22 rfl (by decide) (fun c10 => ?_) (fun c10 => ?_)
    · refine G_bipush (q := 48) (v := (-5 : Int32)) cx dX7_straight_46 rfl (by decide) ?_
      exact G_iret cx rfl dX7_straight_48 trivial
    refine G_aload_n (q := 26) cx dX7_straight_25 rfl rfl ?_
    refine G_getr (q := 29) (g := 2) (i' := 2) cx dX7_straight_26 rfl cf_7 fl_RX7_33 (Nat.le_of_ble_eq_true rfl) rfl rfl (Nat.le_of_ble_eq_true rfl) ?_
    refine G_geti (q := 32) cx dX7_straight_29 rfl cf_2 fl_RX7_118 (Nat.le_of_ble_eq_true rfl) rfl (Nat.le_of_ble_eq_true rfl) ?_
    refine G_aload_n (q := 33) cx dX7_straight_32 rfl rfl ?_
    refine G_getr (q := 36) (g := 5) (i' := 0) cx dX7_straight_33 rfl cf_7 fl_RX7_23 (Nat.le_of_ble_eq_true rfl) rfl rfl (Nat.le_of_ble_eq_true rfl) ?_
    refine G_getr (q := 39) (g := 2) (i' := 0) cx dX7_straight_36 rfl cf_5 fl_RX7_112 (Nat.le_of_ble_eq_true rfl) rfl rfl (Nat.le_of_ble_eq_true rfl) ?_
    refine G_geti (q := 42) cx dX7_straight_39 rfl cf_2 fl_RX7_118 (Nat.le_of_ble_eq_true rfl) rfl (Nat.le_of_ble_eq_true rfl) ?_
    refine G_isub (q := 43) cx dX7_straight_42 rfl ?_
    refine G_goto (t := 48) cx dX7_straight_43 (by decide) ?_
    exact G_iret cx rfl dX7_straight_48 trivial
  · refine G_bipush (q := 9) (v := (-2 : Int32)) cx dX7_straight_7 rfl (by decide) ?_
    exact G_iret cx rfl dX7_straight_9 trivial
def L_X7_quickest_76 (a1 : Int32) (x3_2 : Int32) (K_4 : Int32 → Int32 → St → Option (Int32 × St)) : Nat → Int32 → Int32 → St → Option (Int32 × St)
  | 0, _, _, _ => none
  | n + 1, x2_4, x4_4, S_4 =>
    if (9 : Int32) < x4_4 then (K_4 x2_4 x4_4 S_4)
    else (if x3_2 = a1 then (K_4 x2_4 x4_4 S_4)
    else (bnd (F_X2_copyFrom S_4 2 0) (fun r7 S8 =>
    if 0 ≤ x3_2 ∧ x3_2.toNatClampNeg < 6 then (bnd (F_X7_risesToLeave S8 (6 * 0 + x3_2.toNatClampNeg) x4_4 (gI S8 5 0 7) (60 : Int32)) (fun r13 S14 =>
    if r13 = 0 then (L_X7_quickest_76 a1 x3_2 K_4 n x2_4 (x4_4 + 1) S14)
    else (bnd (F_X7_minutesHome S14 x4_4) (fun r18 S19 =>
    L_X7_quickest_76 a1 x3_2 K_4 n (if (((r18 * (100 : Int32)) + ((x3_2 + (1 : Int32)) * (10 : Int32))) + x4_4) < x2_4 then (((r18 * (100 : Int32)) + ((x3_2 + (1 : Int32)) * (10 : Int32))) + x4_4) else x2_4) (x4_4 + 1) S19))))
    else none)))
def L_X7_quickest_62 (a1 : Int32) (K_2 : Int32 → Int32 → St → Option (Int32 × St)) : Nat → Int32 → Int32 → St → Option (Int32 × St)
  | 0, _, _, _ => none
  | n + 1, x2_2, x3_2, S_2 =>
    if (gI S_2 5 0 5) ≤ x3_2 then (K_2 x2_2 x3_2 S_2)
    else (L_X7_quickest_76 a1 x3_2 
    (fun y2_4 y4_4 T_4 => L_X7_quickest_62 a1 K_2 n y2_4 (x3_2 + 1) T_4) 1000 x2_2 (1 : Int32) S_2)
def L_X7_quickest_5 (K_1 : Int32 → Int32 → St → Option (Int32 × St)) : Nat → Int32 → Int32 → St → Option (Int32 × St)
  | 0, _, _, _ => none
  | n + 1, x2_1, x3_1, S_1 =>
    if (9 : Int32) < x3_1 then (K_1 x2_1 x3_1 S_1)
    else (bnd (F_X7_arrivesSafely S_1 (gI S_1 5 0 7) x3_1) (fun r23 S24 =>
    if r23 = 0 then (L_X7_quickest_5 K_1 n x2_1 (x3_1 + 1) S24)
    else (L_X7_quickest_5 K_1 n (if ((((gI S24 2 2 2) - (gI S24 2 0 2)) * (100 : Int32)) + x3_1) < x2_1 then ((((gI S24 2 2 2) - (gI S24 2 0 2)) * (100 : Int32)) + x3_1) else x2_1) (x3_1 + 1) S24)))
def F_X7_quickest (S : St) (a1 : Int32) : Option (Int32 × St) :=
  L_X7_quickest_5 
  (fun y2_1 y3_1 T_1 => L_X7_quickest_62 a1 
  (fun y2_2 y3_2 T_2 => some (y2_2, T_2)) 1000 y2_1 (0 : Int32) T_1) 1000 (1000000000 : Int32) (1 : Int32) S
set_option maxRecDepth 10000 in
theorem c_X7_quickest (l : Launch) {D : va_G} {cy : Nat → ClassId} {ad : Nat → Nat → Nat} {k : Nat} (hJ : wJ ad (nX k)) (S : St) (a1 : Int32) : CT l yX7_quickest cX7_quickest 5 (some .int) 6 D cy ad (nX k) toI okT [.ref (ad 7 0), .int a1] S (F_X7_quickest S a1) := by
  refine CT.of RX7 (by decide) rfl hJ (Nat.le_of_ble_eq_true rfl) rfl ?_
  intro p e s m below meth c cx
  unfold F_X7_quickest
  refine G_ldc (q := 2) (v := (1000000000 : Int32)) cx dX7_quickest_0 rfl (inG (inT 590 (by decide +kernel)) rfl) ?_
  refine G_istore_n (q := 3) (ls' := [(2, .int (1000000000 : Int32)), (0, .ref (ad 7 0)), (1, .int a1)]) cx dX7_quickest_2 rfl rfl (Nat.le_of_ble_eq_true rfl) rfl ?_
  refine G_iconst (q := 4) (v := (1 : Int32)) cx dX7_quickest_3 rfl (by decide) ?_
  refine G_istore_n (q := 5) (ls' := [(3, .int (1 : Int32)), (2, .int (1000000000 : Int32)), (0, .ref (ad 7 0)), (1, .int a1)]) cx dX7_quickest_4 rfl rfl (Nat.le_of_ble_eq_true rfl) rfl ?_
  have lp_1 : ∀ (K_1 : Int32 → Int32 → St → Option (Int32 × St)) (hK_1 : ∀ (y2_1 : Int32) (y3_1 : Int32) (T_1 : St), TG p l e 6 s m ([.ref (ad 7 0), .int a1] : List Value).toArray below meth c D cy ad (nX k) toI okT T_1 60 [(2, .int y2_1), (3, .int y3_1), (0, .ref (ad 7 0)), (1, .int a1)] [] (K_1 y2_1 y3_1 T_1)), ∀ (n_1 : Nat) (x2_1 : Int32) (x3_1 : Int32) (S_1 : St), TG p l e 6 s m ([.ref (ad 7 0), .int a1] : List Value).toArray below meth c D cy ad (nX k) toI okT S_1 5 [(2, .int x2_1), (3, .int x3_1), (0, .ref (ad 7 0)), (1, .int a1)] [] (L_X7_quickest_5 K_1 n_1 x2_1 x3_1 S_1) := by
    intro K_1 hK_1 n_1
    induction n_1 with
    | zero => intros; exact G_none
    | succ n_1 ih_1 =>
      intro x2_1 x3_1 S_1
      rw [L_X7_quickest_5.eq_2]
      refine G_iload_n (q := 6) cx dX7_quickest_5 rfl rfl ?_
      refine G_bipush (q := 8) (v := (9 : Int32)) cx dX7_quickest_6 rfl (by decide) ?_
      refine G_icmp_gt (q := 11) (t := 60) cx dX7_quickest_8 rfl (by decide) (fun c22 => ?_) (fun c22 => ?_)
      · exact G_loc [0, 1, 2, 3] rfl (hK_1 x2_1 x3_1 S_1)
      refine G_aload_n (q := 12) cx dX7_quickest_11 rfl rfl ?_
      refine G_aload_n (q := 13) cx dX7_quickest_12 rfl rfl ?_
      refine G_getr (q := 16) (g := 5) (i' := 0) cx dX7_quickest_13 rfl cf_7 fl_RX7_23 (Nat.le_of_ble_eq_true rfl) rfl rfl (Nat.le_of_ble_eq_true rfl) ?_
      refine G_geti (q := 19) cx dX7_quickest_16 rfl cf_5 fl_RX7_145 (Nat.le_of_ble_eq_true rfl) rfl (Nat.le_of_ble_eq_true rfl) ?_
      refine G_iload_n (q := 20) cx dX7_quickest_19 rfl rfl ?_
      refine G_callV (q := 23) (d' := 2) (f := 7) (i := 0) (As := [.int (gI S_1 5 0 7), .int x3_1]) (rest := []) (stk := fun r23 => [.int r23]) cx dX7_quickest_20 rfl cf_7 (Nat.le_of_ble_eq_true rfl) ml_RX7_189 rfl rfl (Nat.le_of_ble_eq_true rfl) (Nat.le_of_ble_eq_true rfl) (Nat.le_of_ble_eq_true rfl) (c_X7_arrivesSafely l hJ _ (gI S_1 5 0 7) x3_1) (fun _ => rfl) (fun r23 S24 h25 o26 => ?_)
      refine G_if_eq (q := 26) (t := 54) cx dX7_quickest_23 rfl (by decide) (fun c27 => ?_) (fun c27 => ?_)
      · refine G_iinc (q := 57) (j := 1) (v := x3_1 + 1) (ls' := [(3, .int (x3_1 + 1)), (2, .int x2_1), (0, .ref (ad 7 0)), (1, .int a1)]) cx dX7_quickest_54 rfl rfl rfl (Nat.le_of_ble_eq_true rfl) rfl ?_
        refine G_goto (t := 5) cx dX7_quickest_57 (by decide) ?_
        exact G_loc [1, 0, 2, 3] rfl (ih_1 x2_1 (x3_1 + 1) S24)
      refine G_iload_n (q := 27) cx dX7_quickest_26 rfl rfl ?_
      refine G_aload_n (q := 28) cx dX7_quickest_27 rfl rfl ?_
      refine G_getr (q := 31) (g := 2) (i' := 2) cx dX7_quickest_28 rfl cf_7 fl_RX7_33 (Nat.le_of_ble_eq_true rfl) rfl rfl (Nat.le_of_ble_eq_true rfl) ?_
      refine G_geti (q := 34) cx dX7_quickest_31 rfl cf_2 fl_RX7_118 (Nat.le_of_ble_eq_true rfl) rfl (Nat.le_of_ble_eq_true rfl) ?_
      refine G_aload_n (q := 35) cx dX7_quickest_34 rfl rfl ?_
      refine G_getr (q := 38) (g := 5) (i' := 0) cx dX7_quickest_35 rfl cf_7 fl_RX7_23 (Nat.le_of_ble_eq_true rfl) rfl rfl (Nat.le_of_ble_eq_true rfl) ?_
      refine G_getr (q := 41) (g := 2) (i' := 0) cx dX7_quickest_38 rfl cf_5 fl_RX7_112 (Nat.le_of_ble_eq_true rfl) rfl rfl (Nat.le_of_ble_eq_true rfl) ?_
      refine G_geti (q := 44) cx dX7_quickest_41 rfl cf_2 fl_RX7_118 (Nat.le_of_ble_eq_true rfl) rfl (Nat.le_of_ble_eq_true rfl) ?_
      refine G_isub (q := 45) cx dX7_quickest_44 rfl ?_
      refine G_bipush (q := 47) (v := (100 : Int32)) cx dX7_quickest_45 rfl (by decide) ?_
      refine G_imul (q := 48) cx dX7_quickest_47 rfl ?_
      refine G_iload_n (q := 49) cx dX7_quickest_48 rfl rfl ?_
      refine G_iadd (q := 50) cx dX7_quickest_49 rfl ?_
      refine G_mmin (q := 53) cx dX7_quickest_50 rfl ml_RX7_186 (Nat.le_of_ble_eq_true rfl) (Nat.le_of_ble_eq_true rfl) ?_
      refine G_istore_n (q := 54) (ls' := [(2, .int (if ((((gI S24 2 2 2) - (gI S24 2 0 2)) * (100 : Int32)) + x3_1) < x2_1 then ((((gI S24 2 2 2) - (gI S24 2 0 2)) * (100 : Int32)) + x3_1) else x2_1)), (3, .int x3_1), (0, .ref (ad 7 0)), (1, .int a1)]) cx dX7_quickest_53 rfl rfl (Nat.le_of_ble_eq_true rfl) rfl ?_
      refine G_iinc (q := 57) (j := 1) (v := x3_1 + 1) (ls' := [(3, .int (x3_1 + 1)), (2, .int (if ((((gI S24 2 2 2) - (gI S24 2 0 2)) * (100 : Int32)) + x3_1) < x2_1 then ((((gI S24 2 2 2) - (gI S24 2 0 2)) * (100 : Int32)) + x3_1) else x2_1)), (0, .ref (ad 7 0)), (1, .int a1)]) cx dX7_quickest_54 rfl rfl rfl (Nat.le_of_ble_eq_true rfl) rfl ?_
      refine G_goto (t := 5) cx dX7_quickest_57 (by decide) ?_
      exact G_loc [1, 0, 2, 3] rfl (ih_1 (if ((((gI S24 2 2 2) - (gI S24 2 0 2)) * (100 : Int32)) + x3_1) < x2_1 then ((((gI S24 2 2 2) - (gI S24 2 0 2)) * (100 : Int32)) + x3_1) else x2_1) (x3_1 + 1) S24)
  refine G_loc [1, 0, 2, 3] rfl (lp_1 _ (fun y2_1 y3_1 T_1 => ?_) 1000 (1000000000 : Int32) (1 : Int32) S)
  refine G_iconst (q := 61) (v := (0 : Int32)) cx dX7_quickest_60 rfl (by decide) ?_
  refine G_istore_n (q := 62) (ls' := [(3, .int (0 : Int32)), (2, .int y2_1), (0, .ref (ad 7 0)), (1, .int a1)]) cx dX7_quickest_61 rfl rfl (Nat.le_of_ble_eq_true rfl) rfl ?_
  have lp_2 : ∀ (K_2 : Int32 → Int32 → St → Option (Int32 × St)) (hK_2 : ∀ (y2_2 : Int32) (y3_2 : Int32) (T_2 : St), TG p l e 6 s m ([.ref (ad 7 0), .int a1] : List Value).toArray below meth c D cy ad (nX k) toI okT T_2 165 [(2, .int y2_2), (3, .int y3_2), (0, .ref (ad 7 0)), (1, .int a1)] [] (K_2 y2_2 y3_2 T_2)), ∀ (n_2 : Nat) (x2_2 : Int32) (x3_2 : Int32) (S_2 : St), TG p l e 6 s m ([.ref (ad 7 0), .int a1] : List Value).toArray below meth c D cy ad (nX k) toI okT S_2 62 [(2, .int x2_2), (3, .int x3_2), (0, .ref (ad 7 0)), (1, .int a1)] [] (L_X7_quickest_62 a1 K_2 n_2 x2_2 x3_2 S_2) := by
    intro K_2 hK_2 n_2
    induction n_2 with
    | zero => intros; exact G_none
    | succ n_2 ih_2 =>
      intro x2_2 x3_2 S_2
      rw [L_X7_quickest_62.eq_2]
      refine G_iload_n (q := 63) cx dX7_quickest_62 rfl rfl ?_
      refine G_aload_n (q := 64) cx dX7_quickest_63 rfl rfl ?_
      refine G_getr (q := 67) (g := 5) (i' := 0) cx dX7_quickest_64 rfl cf_7 fl_RX7_23 (Nat.le_of_ble_eq_true rfl) rfl rfl (Nat.le_of_ble_eq_true rfl) ?_
      refine G_geti (q := 70) cx dX7_quickest_67 rfl cf_5 fl_RX7_81 (Nat.le_of_ble_eq_true rfl) rfl (Nat.le_of_ble_eq_true rfl) ?_
      refine G_icmp_ge (q := 73) (t := 165) cx dX7_quickest_70 rfl (by decide) (fun c3 => ?_) (fun c3 => ?_)
      · exact G_loc [0, 1, 2, 3] rfl (hK_2 x2_2 x3_2 S_2)
      refine G_iconst (q := 74) (v := (1 : Int32)) cx dX7_quickest_73 rfl (by decide) ?_
      refine G_istore (q := 76) (ls' := [(4, .int (1 : Int32)), (2, .int x2_2), (3, .int x3_2), (0, .ref (ad 7 0)), (1, .int a1)]) cx dX7_quickest_74 rfl (Nat.le_of_ble_eq_true rfl) rfl ?_
      have lp_4 : ∀ (K_4 : Int32 → Int32 → St → Option (Int32 × St)) (hK_4 : ∀ (y2_4 : Int32) (y4_4 : Int32) (T_4 : St), TG p l e 6 s m ([.ref (ad 7 0), .int a1] : List Value).toArray below meth c D cy ad (nX k) toI okT T_4 159 [(2, .int y2_4), (4, .int y4_4), (3, .int x3_2), (0, .ref (ad 7 0)), (1, .int a1)] [] (K_4 y2_4 y4_4 T_4)), ∀ (n_4 : Nat) (x2_4 : Int32) (x4_4 : Int32) (S_4 : St), TG p l e 6 s m ([.ref (ad 7 0), .int a1] : List Value).toArray below meth c D cy ad (nX k) toI okT S_4 76 [(2, .int x2_4), (4, .int x4_4), (3, .int x3_2), (0, .ref (ad 7 0)), (1, .int a1)] [] (L_X7_quickest_76 a1 x3_2 K_4 n_4 x2_4 x4_4 S_4) := by
        intro K_4 hK_4 n_4
        induction n_4 with
        | zero => intros; exact G_none
        | succ n_4 ih_4 =>
          intro x2_4 x4_4 S_4
          rw [L_X7_quickest_76.eq_2]
          refine G_iload (q := 78) cx dX7_quickest_76 rfl rfl ?_
          refine G_bipush (q := 80) (v := (9 : Int32)) cx dX7_quickest_78 rfl (by decide) ?_
          refine G_icmp_gt (q := 83) (t := 159) cx dX7_quickest_80 rfl (by decide) (fun c5 => ?_) (fun c5 => ?_)
          · exact G_loc [0, 1, 2, 3, 4] rfl (hK_4 x2_4 x4_4 S_4)
          refine G_iload_n (q := 84) cx dX7_quickest_83 rfl rfl ?_
          refine G_iload_n (q := 85) cx dX7_quickest_84 rfl rfl ?_
          refine G_icmp_eq (q := 88) (t := 159) cx dX7_quickest_85 rfl (by decide) (fun c6 => ?_) (fun c6 => ?_)
          · exact G_loc [0, 1, 2, 3, 4] rfl (hK_4 x2_4 x4_4 S_4)
          refine G_aload_n (q := 89) cx dX7_quickest_88 rfl rfl ?_
          refine G_getr (q := 92) (g := 2) (i' := 2) cx dX7_quickest_89 rfl cf_7 fl_RX7_33 (Nat.le_of_ble_eq_true rfl) rfl rfl (Nat.le_of_ble_eq_true rfl) ?_
          refine G_aload_n (q := 93) cx dX7_quickest_92 rfl rfl ?_
          refine G_getr (q := 96) (g := 5) (i' := 0) cx dX7_quickest_93 rfl cf_7 fl_RX7_23 (Nat.le_of_ble_eq_true rfl) rfl rfl (Nat.le_of_ble_eq_true rfl) ?_
          refine G_getr (q := 99) (g := 2) (i' := 0) cx dX7_quickest_96 rfl cf_5 fl_RX7_112 (Nat.le_of_ble_eq_true rfl) rfl rfl (Nat.le_of_ble_eq_true rfl) ?_
          refine G_callV (q := 102) (d' := 0) (f := 2) (i := 2) (As := [.ref (ad 2 0)]) (rest := []) (stk := fun _ => []) cx dX7_quickest_99 rfl cf_2 (Nat.le_of_ble_eq_true rfl) ml_RX7_165 rfl rfl (Nat.le_of_ble_eq_true rfl) (Nat.le_of_ble_eq_true rfl) (Nat.le_of_ble_eq_true rfl) (c_X2_copyFrom l hJ _ 2 0 (Nat.le_of_ble_eq_true rfl) (Nat.le_of_ble_eq_true rfl)) (fun _ => rfl) (fun r7 S8 h9 o10 => ?_)
          refine G_aload_n (q := 103) cx dX7_quickest_102 rfl rfl ?_
          refine G_aload_n (q := 104) cx dX7_quickest_103 rfl rfl ?_
          refine G_getr (q := 107) (g := 5) (i' := 0) cx dX7_quickest_104 rfl cf_7 fl_RX7_23 (Nat.le_of_ble_eq_true rfl) rfl rfl (Nat.le_of_ble_eq_true rfl) ?_
          refine G_getr (q := 110) (g := 12) (i' := 0) cx dX7_quickest_107 rfl cf_5 fl_RX7_84 (Nat.le_of_ble_eq_true rfl) rfl rfl (Nat.le_of_ble_eq_true rfl) ?_
          refine G_iload_n (q := 111) cx dX7_quickest_110 rfl rfl ?_
          refine G_aaldL (q := 112) cx dX7_quickest_111 rfl (Nat.le_of_ble_eq_true rfl) (fun g11 g12 => ?_)
          refine G_iload (q := 114) cx dX7_quickest_112 rfl rfl ?_
          refine G_aload_n (q := 115) cx dX7_quickest_114 rfl rfl ?_
          refine G_getr (q := 118) (g := 5) (i' := 0) cx dX7_quickest_115 rfl cf_7 fl_RX7_23 (Nat.le_of_ble_eq_true rfl) rfl rfl (Nat.le_of_ble_eq_true rfl) ?_
          refine G_geti (q := 121) cx dX7_quickest_118 rfl cf_5 fl_RX7_145 (Nat.le_of_ble_eq_true rfl) rfl (Nat.le_of_ble_eq_true rfl) ?_
          refine G_bipush (q := 123) (v := (60 : Int32)) cx dX7_quickest_121 rfl (by decide) ?_
          refine G_callV (q := 126) (d' := 5) (f := 7) (i := 0) (As := [.ref (ad 3 (6 * 0 + x3_2.toNatClampNeg)), .int x4_4, .int (gI S8 5 0 7), .int (60 : Int32)]) (rest := []) (stk := fun r13 => [.int r13]) cx dX7_quickest_123 rfl cf_7 (Nat.le_of_ble_eq_true rfl) ml_RX7_196 rfl rfl (Nat.le_of_ble_eq_true rfl) (Nat.le_of_ble_eq_true rfl) (Nat.le_of_ble_eq_true rfl) (c_X7_risesToLeave l hJ _ (6 * 0 + x3_2.toNatClampNeg) x4_4 (gI S8 5 0 7) (60 : Int32) (by show 6 * 0 + x3_2.toNatClampNeg < 12; omega)) (fun _ => rfl) (fun r13 S14 h15 o16 => ?_)
          refine G_if_eq (q := 129) (t := 153) cx dX7_quickest_126 rfl (by decide) (fun c17 => ?_) (fun c17 => ?_)
          · refine G_iinc (q := 156) (j := 1) (v := x4_4 + 1) (ls' := [(4, .int (x4_4 + 1)), (2, .int x2_4), (3, .int x3_2), (0, .ref (ad 7 0)), (1, .int a1)]) cx dX7_quickest_153 rfl rfl rfl (Nat.le_of_ble_eq_true rfl) rfl ?_
            refine G_goto (t := 76) cx dX7_quickest_156 (by decide) ?_
            exact G_loc [1, 0, 2, 3, 4] rfl (ih_4 x2_4 (x4_4 + 1) S14)
          refine G_iload_n (q := 130) cx dX7_quickest_129 rfl rfl ?_
          refine G_aload_n (q := 131) cx dX7_quickest_130 rfl rfl ?_
          refine G_iload (q := 133) cx dX7_quickest_131 rfl rfl ?_
          refine G_callV (q := 136) (d' := 2) (f := 7) (i := 0) (As := [.int x4_4]) (rest := [.int x2_4]) (stk := fun r18 => [.int r18, .int x2_4]) cx dX7_quickest_133 rfl cf_7 (Nat.le_of_ble_eq_true rfl) ml_RX7_200 rfl rfl (Nat.le_of_ble_eq_true rfl) (Nat.le_of_ble_eq_true rfl) (Nat.le_of_ble_eq_true rfl) (c_X7_minutesHome l hJ _ x4_4) (fun _ => rfl) (fun r18 S19 h20 o21 => ?_)
          refine G_bipush (q := 138) (v := (100 : Int32)) cx dX7_quickest_136 rfl (by decide) ?_
          refine G_imul (q := 139) cx dX7_quickest_138 rfl ?_
          refine G_iload_n (q := 140) cx dX7_quickest_139 rfl rfl ?_
          refine G_iconst (q := 141) (v := (1 : Int32)) cx dX7_quickest_140 rfl (by decide) ?_
          refine G_iadd (q := 142) cx dX7_quickest_141 rfl ?_
          refine G_bipush (q := 144) (v := (10 : Int32)) cx dX7_quickest_142 rfl (by decide) ?_
          refine G_imul (q := 145) cx dX7_quickest_144 rfl ?_
          refine G_iadd (q := 146) cx dX7_quickest_145 rfl ?_
          refine G_iload (q := 148) cx dX7_quickest_146 rfl rfl ?_
          refine G_iadd (q := 149) cx dX7_quickest_148 rfl ?_
          refine G_mmin (q := 152) cx dX7_quickest_149 rfl ml_RX7_186 (Nat.le_of_ble_eq_true rfl) (Nat.le_of_ble_eq_true rfl) ?_
          refine G_istore_n (q := 153) (ls' := [(2, .int (if (((r18 * (100 : Int32)) + ((x3_2 + (1 : Int32)) * (10 : Int32))) + x4_4) < x2_4 then (((r18 * (100 : Int32)) + ((x3_2 + (1 : Int32)) * (10 : Int32))) + x4_4) else x2_4)), (4, .int x4_4), (3, .int x3_2), (0, .ref (ad 7 0)), (1, .int a1)]) cx dX7_quickest_152 rfl rfl (Nat.le_of_ble_eq_true rfl) rfl ?_
          refine G_iinc (q := 156) (j := 1) (v := x4_4 + 1) (ls' := [(4, .int (x4_4 + 1)), (2, .int (if (((r18 * (100 : Int32)) + ((x3_2 + (1 : Int32)) * (10 : Int32))) + x4_4) < x2_4 then (((r18 * (100 : Int32)) + ((x3_2 + (1 : Int32)) * (10 : Int32))) + x4_4) else x2_4)), (3, .int x3_2), (0, .ref (ad 7 0)), (1, .int a1)]) cx dX7_quickest_153 rfl rfl rfl (Nat.le_of_ble_eq_true rfl) rfl ?_
          refine G_goto (t := 76) cx dX7_quickest_156 (by decide) ?_
          exact G_loc [1, 0, 2, 3, 4] rfl (ih_4 (if (((r18 * (100 : Int32)) + ((x3_2 + (1 : Int32)) * (10 : Int32))) + x4_4) < x2_4 then (((r18 * (100 : Int32)) + ((x3_2 + (1 : Int32)) * (10 : Int32))) + x4_4) else x2_4) (x4_4 + 1) S19)
      refine G_loc [1, 0, 2, 3, 4] rfl (lp_4 _ (fun y2_4 y4_4 T_4 => ?_) 1000 x2_2 (1 : Int32) S_2)
      refine G_iinc (q := 162) (j := 2) (v := x3_2 + 1) (ls' := [(3, .int (x3_2 + 1)), (2, .int y2_4), (4, .int y4_4), (0, .ref (ad 7 0)), (1, .int a1)]) cx dX7_quickest_159 rfl rfl rfl (Nat.le_of_ble_eq_true rfl) rfl ?_
      refine G_goto (t := 62) cx dX7_quickest_162 (by decide) ?_
      exact G_loc [1, 0, 3, 4] rfl (ih_2 y2_4 (x3_2 + 1) T_4)
  refine G_loc [1, 0, 2, 3] rfl (lp_2 _ (fun y2_2 y3_2 T_2 => ?_) 1000 y2_1 (0 : Int32) T_1)
  refine G_iload_n (q := 166) cx dX7_quickest_165 rfl rfl ?_
  exact G_iret cx rfl dX7_quickest_166 trivial
def F_X7_best (S : St) (a1 : Int32) : Option (Int32 × St) :=
  bnd (F_X7_isWithin S a1 (0 : Int32) (2 : Int32)) (fun r1 S2 =>
  if r1 = 0 then (some ((-1001 : Int32), S2))
  else (bnd (F_X7_quickest S2 (-5 : Int32)) (fun r6 S7 =>
  if r6 = (1000000000 : Int32) then (some ((-5 : Int32), S7))
  else (if a1 = 0 then (some (((r6 / (10 : Int32)) - (r6 / (10 : Int32)) / (10 : Int32) * (10 : Int32)) - (1 : Int32), S7))
  else (if a1 = 1 then (some (r6 - r6 / (10 : Int32) * (10 : Int32), S7))
  else (some (r6 / (100 : Int32), S7)))))))
set_option maxRecDepth 10000 in
theorem c_X7_best (l : Launch) {D : va_G} {cy : Nat → ClassId} {ad : Nat → Nat → Nat} {k : Nat} (hJ : wJ ad (nX k)) (S : St) (a1 : Int32) : CT l yX7_best cX7_best 3 (some .int) 7 D cy ad (nX k) toI okT [.ref (ad 7 0), .int a1] S (F_X7_best S a1) := by
  refine CT.of RX7 (by decide) rfl hJ (Nat.le_of_ble_eq_true rfl) rfl ?_
  intro p e s m below meth c cx
  unfold F_X7_best
  refine G_iload_n (q := 1) cx dX7_best_0 rfl rfl ?_
  refine G_iconst (q := 2) (v := (0 : Int32)) cx dX7_best_1 rfl (by decide) ?_
  refine G_iconst (q := 3) (v := (2 : Int32)) cx dX7_best_2 rfl (by decide) ?_
  refine G_callS (q := 6) (d' := 0) (As := [.int a1, .int (0 : Int32), .int (2 : Int32)]) (rest := []) (stk := fun r1 => [.int r1]) cx dX7_best_3 rfl ml_RX7_74 rfl rfl (Nat.le_of_ble_eq_true rfl) (Nat.le_of_ble_eq_true rfl) (Nat.le_of_ble_eq_true rfl) (c_X7_isWithin l hJ _ a1 (0 : Int32) (2 : Int32)) (fun _ => rfl) (fun r1 S2 h3 o4 => ?_)
  refine G_if_ne (q := 9) (t := 13) cx dX7_best_6 rfl (by decide) (fun c5 => ?_) (fun c5 => ?_)
  · refine G_aload_n (q := 14) cx dX7_best_13 rfl rfl ?_
    refine G_bipush (q := 16) (v := (-5 : Int32)) cx dX7_best_14 rfl (by decide) ?_
    refine G_callV (q := 19) (d' := 6) (f := 7) (i := 0) (As := [.int (-5 : Int32)]) (rest := []) (stk := fun r6 => [.int r6]) cx dX7_best_16 rfl cf_7 (Nat.le_of_ble_eq_true rfl) ml_RX7_203 rfl rfl (Nat.le_of_ble_eq_true rfl) (Nat.le_of_ble_eq_true rfl) (Nat.le_of_ble_eq_true rfl) (c_X7_quickest l hJ _ (-5 : Int32)) (fun _ => rfl) (fun r6 S7 h8 o9 => ?_)
    refine G_istore_n (q := 20) (ls' := [(2, .int r6), (0, .ref (ad 7 0)), (1, .int a1)]) cx dX7_best_19 rfl rfl (Nat.le_of_ble_eq_true rfl) rfl ?_
    refine G_iload_n (q := 21) cx dX7_best_20 rfl rfl ?_
    refine G_ldc (q := 23) (v := (1000000000 : Int32)) cx dX7_best_21 rfl (inG (inT 590 (by decide +kernel)) rfl) ?_
    refine G_icmp_ne (q := 26) (t := 29) cx dX7_best_23 rfl (by decide) (fun c10 => ?_) (fun c10 => ?_)
    · refine G_iload_n (q := 30) cx dX7_best_29 rfl rfl ?_
      refine G_case (fun w11 => ?_) (fun w11 => ?_)
      · refine G_lsw (t := 56) (off := 26) cx dX7_best_30 (by decide) (by rw [w11] <;> decide) (by decide) ?_
        refine G_iload_n (q := 57) cx dX7_best_56 rfl rfl ?_
        refine G_bipush (q := 59) (v := (10 : Int32)) cx dX7_best_57 rfl (by decide) ?_
        refine G_idiv (q := 60) cx dX7_best_59 rfl (by decide) ?_
        refine G_bipush (q := 62) (v := (10 : Int32)) cx dX7_best_60 rfl (by decide) ?_
        refine G_irem (q := 63) cx dX7_best_62 rfl (by decide) ?_
        refine G_iconst (q := 64) (v := (1 : Int32)) cx dX7_best_63 rfl (by decide) ?_
        refine G_isub (q := 65) cx dX7_best_64 rfl ?_
        exact G_iret cx rfl dX7_best_65 trivial
      refine G_case (fun w12 => ?_) (fun w12 => ?_)
      · refine G_lsw (t := 66) (off := 36) cx dX7_best_30 (by decide) (by rw [w12] <;> decide) (by decide) ?_
        refine G_iload_n (q := 67) cx dX7_best_66 rfl rfl ?_
        refine G_bipush (q := 69) (v := (10 : Int32)) cx dX7_best_67 rfl (by decide) ?_
        refine G_irem (q := 70) cx dX7_best_69 rfl (by decide) ?_
        exact G_iret cx rfl dX7_best_70 trivial
      refine G_lsw (t := 71) (off := 41) cx dX7_best_30 (by decide) (by show Op.lookupswitch.offset [(0, 26), (1, 36)] 41 _ = _; rw [lv_osw w11 (show (0 : Int32).toInt = 0 by decide)]; rw [lv_osw w12 (show (1 : Int32).toInt = 1 by decide)] <;> rfl) (by decide) ?_
      refine G_iload_n (q := 72) cx dX7_best_71 rfl rfl ?_
      refine G_bipush (q := 74) (v := (100 : Int32)) cx dX7_best_72 rfl (by decide) ?_
      refine G_idiv (q := 75) cx dX7_best_74 rfl (by decide) ?_
      exact G_iret cx rfl dX7_best_75 trivial
    · refine G_bipush (q := 28) (v := (-5 : Int32)) cx dX7_best_26 rfl (by decide) ?_
      exact G_iret cx rfl dX7_best_28 trivial
  · refine G_sipush (q := 12) (v := (-1001 : Int32)) cx dX7_best_9 rfl (by decide) ?_
    exact G_iret cx rfl dX7_best_12 trivial
def F_X7_minutesByTwo (S : St) (a1 : Nat) (a2 : Nat) (a3 : Int32) : Option (Int32 × St) :=
  bnd (F_X2_copyFrom S 2 0) (fun r1 S2 =>
  bnd (F_X7_risesToLeave S2 a1 a3 (gI S2 3 a2 4) (40 : Int32)) (fun r5 S6 =>
  if r5 = 0 then (some ((1000000000 : Int32), S6))
  else (bnd (F_X7_risesToLeave S6 a2 a3 (gI S6 5 0 7) (40 : Int32)) (fun r10 S11 =>
  if r10 = 0 then (some ((1000000000 : Int32), S11))
  else (bnd (F_X7_minutesHome S11 a3) (fun r15 S16 =>
  some (r15, S16)))))))
set_option maxRecDepth 10000 in
theorem c_X7_minutesByTwo (l : Launch) {D : va_G} {cy : Nat → ClassId} {ad : Nat → Nat → Nat} {k : Nat} (hJ : wJ ad (nX k)) (S : St) (a1 : Nat) (a2 : Nat) (a3 : Int32) (h_a1 : a1 < 12) (h_a2 : a2 < 12) : CT l yX7_minutesByTwo cX7_minutesByTwo 4 (some .int) 6 D cy ad (nX k) toI okT [.ref (ad 7 0), .ref (ad 3 a1), .ref (ad 3 a2), .int a3] S (F_X7_minutesByTwo S a1 a2 a3) := by
  refine CT.of RX7 (by decide) rfl hJ (Nat.le_of_ble_eq_true rfl) rfl ?_
  intro p e s m below meth c cx
  unfold F_X7_minutesByTwo
  refine G_aload_n (q := 1) cx dX7_minutesByTwo_0 rfl rfl ?_
  refine G_getr (q := 4) (g := 2) (i' := 2) cx dX7_minutesByTwo_1 rfl cf_7 fl_RX7_33 (Nat.le_of_ble_eq_true rfl) rfl rfl (Nat.le_of_ble_eq_true rfl) ?_
  refine G_aload_n (q := 5) cx dX7_minutesByTwo_4 rfl rfl ?_
  refine G_getr (q := 8) (g := 5) (i' := 0) cx dX7_minutesByTwo_5 rfl cf_7 fl_RX7_23 (Nat.le_of_ble_eq_true rfl) rfl rfl (Nat.le_of_ble_eq_true rfl) ?_
  refine G_getr (q := 11) (g := 2) (i' := 0) cx dX7_minutesByTwo_8 rfl cf_5 fl_RX7_112 (Nat.le_of_ble_eq_true rfl) rfl rfl (Nat.le_of_ble_eq_true rfl) ?_
  refine G_callV (q := 14) (d' := 0) (f := 2) (i := 2) (As := [.ref (ad 2 0)]) (rest := []) (stk := fun _ => []) cx dX7_minutesByTwo_11 rfl cf_2 (Nat.le_of_ble_eq_true rfl) ml_RX7_165 rfl rfl (Nat.le_of_ble_eq_true rfl) (Nat.le_of_ble_eq_true rfl) (Nat.le_of_ble_eq_true rfl) (c_X2_copyFrom l hJ _ 2 0 (Nat.le_of_ble_eq_true rfl) (Nat.le_of_ble_eq_true rfl)) (fun _ => rfl) (fun r1 S2 h3 o4 => ?_)
  refine G_aload_n (q := 15) cx dX7_minutesByTwo_14 rfl rfl ?_
  refine G_aload_n (q := 16) cx dX7_minutesByTwo_15 rfl rfl ?_
  refine G_iload_n (q := 17) cx dX7_minutesByTwo_16 rfl rfl ?_
  refine G_aload_n (q := 18) cx dX7_minutesByTwo_17 rfl rfl ?_
  refine G_geti (q := 21) cx dX7_minutesByTwo_18 rfl cf_3 fl_RX7_103 (Nat.le_of_ble_eq_true rfl) rfl h_a2 ?_
  refine G_bipush (q := 23) (v := (40 : Int32)) cx dX7_minutesByTwo_21 rfl (by decide) ?_
  refine G_callV (q := 26) (d' := 5) (f := 7) (i := 0) (As := [.ref (ad 3 a1), .int a3, .int (gI S2 3 a2 4), .int (40 : Int32)]) (rest := []) (stk := fun r5 => [.int r5]) cx dX7_minutesByTwo_23 rfl cf_7 (Nat.le_of_ble_eq_true rfl) ml_RX7_196 rfl rfl (Nat.le_of_ble_eq_true rfl) (Nat.le_of_ble_eq_true rfl) (Nat.le_of_ble_eq_true rfl) (c_X7_risesToLeave l hJ _ a1 a3 (gI S2 3 a2 4) (40 : Int32) h_a1) (fun _ => rfl) (fun r5 S6 h7 o8 => ?_)
  refine G_if_ne (q := 29) (t := 32) cx dX7_minutesByTwo_26 rfl (by decide) (fun c9 => ?_) (fun c9 => ?_)
  · refine G_aload_n (q := 33) cx dX7_minutesByTwo_32 rfl rfl ?_
    refine G_aload_n (q := 34) cx dX7_minutesByTwo_33 rfl rfl ?_
    refine G_iload_n (q := 35) cx dX7_minutesByTwo_34 rfl rfl ?_
    refine G_aload_n (q := 36) cx dX7_minutesByTwo_35 rfl rfl ?_
    refine G_getr (q := 39) (g := 5) (i' := 0) cx dX7_minutesByTwo_36 rfl cf_7 fl_RX7_23 (Nat.le_of_ble_eq_true rfl) rfl rfl (Nat.le_of_ble_eq_true rfl) ?_
    refine G_geti (q := 42) cx dX7_minutesByTwo_39 rfl cf_5 fl_RX7_145 (Nat.le_of_ble_eq_true rfl) rfl (Nat.le_of_ble_eq_true rfl) ?_
    refine G_bipush (q := 44) (v := (40 : Int32)) cx dX7_minutesByTwo_42 rfl (by decide) ?_
    refine G_callV (q := 47) (d' := 5) (f := 7) (i := 0) (As := [.ref (ad 3 a2), .int a3, .int (gI S6 5 0 7), .int (40 : Int32)]) (rest := []) (stk := fun r10 => [.int r10]) cx dX7_minutesByTwo_44 rfl cf_7 (Nat.le_of_ble_eq_true rfl) ml_RX7_196 rfl rfl (Nat.le_of_ble_eq_true rfl) (Nat.le_of_ble_eq_true rfl) (Nat.le_of_ble_eq_true rfl) (c_X7_risesToLeave l hJ _ a2 a3 (gI S6 5 0 7) (40 : Int32) h_a2) (fun _ => rfl) (fun r10 S11 h12 o13 => ?_)
    refine G_if_ne (q := 50) (t := 53) cx dX7_minutesByTwo_47 rfl (by decide) (fun c14 => ?_) (fun c14 => ?_)
    · refine G_aload_n (q := 54) cx dX7_minutesByTwo_53 rfl rfl ?_
      refine G_iload_n (q := 55) cx dX7_minutesByTwo_54 rfl rfl ?_
      refine G_callV (q := 58) (d' := 2) (f := 7) (i := 0) (As := [.int a3]) (rest := []) (stk := fun r15 => [.int r15]) cx dX7_minutesByTwo_55 rfl cf_7 (Nat.le_of_ble_eq_true rfl) ml_RX7_200 rfl rfl (Nat.le_of_ble_eq_true rfl) (Nat.le_of_ble_eq_true rfl) (Nat.le_of_ble_eq_true rfl) (c_X7_minutesHome l hJ _ a3) (fun _ => rfl) (fun r15 S16 h17 o18 => ?_)
      exact G_iret cx rfl dX7_minutesByTwo_58 trivial
    · refine G_ldc (q := 52) (v := (1000000000 : Int32)) cx dX7_minutesByTwo_50 rfl (inG (inT 590 (by decide +kernel)) rfl) ?_
      exact G_iret cx rfl dX7_minutesByTwo_52 trivial
  · refine G_ldc (q := 31) (v := (1000000000 : Int32)) cx dX7_minutesByTwo_29 rfl (inG (inT 590 (by decide +kernel)) rfl) ?_
    exact G_iret cx rfl dX7_minutesByTwo_31 trivial
def L_X7_two_46 (a1 : Int32) (x5_11 : Int32) (K_15 : Int32 → Int32 → Int32 → St → Option (Int32 × St)) : Nat → Int32 → Int32 → Int32 → St → Option (Int32 × St)
  | 0, _, _, _, _ => none
  | n + 1, x3_15, x4_15, x6_15, S_15 =>
    if (gI S_15 5 0 5) ≤ x6_15 then (K_15 x3_15 x4_15 x6_15 S_15)
    else (if x5_11 = x6_15 then (if x4_15 ≤ (1000000000 : Int32) then (L_X7_two_46 a1 x5_11 K_15 n x3_15 x4_15 (x6_15 + 1) S_15)
    else (L_X7_two_46 a1 x5_11 K_15 n (((10 : Int32) * x5_11) + x6_15) (1000000000 : Int32) (x6_15 + 1) S_15))
    else (if 0 ≤ x5_11 ∧ x5_11.toNatClampNeg < 6 then (if 0 ≤ x6_15 ∧ x6_15.toNatClampNeg < 6 then (bnd (F_X7_minutesByTwo S_15 (6 * 0 + x5_11.toNatClampNeg) (6 * 0 + x6_15.toNatClampNeg) a1) (fun r22 S23 =>
    if x4_15 ≤ r22 then (L_X7_two_46 a1 x5_11 K_15 n x3_15 x4_15 (x6_15 + 1) S23)
    else (L_X7_two_46 a1 x5_11 K_15 n (((10 : Int32) * x5_11) + x6_15) r22 (x6_15 + 1) S23)))
    else none)
    else none))
def L_X7_two_31 (a1 : Int32) (K_11 : Int32 → Int32 → Int32 → St → Option (Int32 × St)) : Nat → Int32 → Int32 → Int32 → St → Option (Int32 × St)
  | 0, _, _, _, _ => none
  | n + 1, x3_11, x4_11, x5_11, S_11 =>
    if (gI S_11 5 0 5) ≤ x5_11 then (K_11 x3_11 x4_11 x5_11 S_11)
    else (L_X7_two_46 a1 x5_11 
    (fun y3_15 y4_15 y6_15 T_15 => L_X7_two_31 a1 K_11 n y3_15 y4_15 (x5_11 + 1) T_15) 1000 x3_11 x4_11 (0 : Int32) S_11)
def F_X7_two (S : St) (a1 : Int32) (a2 : Int32) : Option (Int32 × St) :=
  bnd (F_X7_isWithin S a2 (0 : Int32) (1 : Int32)) (fun r1 S2 =>
  if r1 = 0 then (some ((-1 : Int32), S2))
  else (bnd (F_X7_isPace S2 a1) (fun r6 S7 =>
  if r6 = 0 then (some ((-2 : Int32), S7))
  else (L_X7_two_31 a1 
  (fun y3_11 y4_11 y5_11 T_11 => if a2 = 0 then (some (y3_11, T_11))
  else (if y3_11 = (-5 : Int32) then (some (y3_11, T_11))
  else (some (y4_11, T_11)))) 1000 (-5 : Int32) (1000000000 : Int32) (0 : Int32) S7))))
set_option maxRecDepth 10000 in
theorem c_X7_two (l : Launch) {D : va_G} {cy : Nat → ClassId} {ad : Nat → Nat → Nat} {k : Nat} (hJ : wJ ad (nX k)) (S : St) (a1 : Int32) (a2 : Int32) : CT l yX7_two cX7_two 8 (some .int) 7 D cy ad (nX k) toI okT [.ref (ad 7 0), .int a1, .int a2] S (F_X7_two S a1 a2) := by
  refine CT.of RX7 (by decide) rfl hJ (Nat.le_of_ble_eq_true rfl) rfl ?_
  intro p e s m below meth c cx
  unfold F_X7_two
  refine G_iload_n (q := 1) cx dX7_two_0 rfl rfl ?_
  refine G_iconst (q := 2) (v := (0 : Int32)) cx dX7_two_1 rfl (by decide) ?_
  refine G_iconst (q := 3) (v := (1 : Int32)) cx dX7_two_2 rfl (by decide) ?_
  refine G_callS (q := 6) (d' := 0) (As := [.int a2, .int (0 : Int32), .int (1 : Int32)]) (rest := []) (stk := fun r1 => [.int r1]) cx dX7_two_3 rfl ml_RX7_74 rfl rfl (Nat.le_of_ble_eq_true rfl) (Nat.le_of_ble_eq_true rfl) (Nat.le_of_ble_eq_true rfl) (c_X7_isWithin l hJ _ a2 (0 : Int32) (1 : Int32)) (fun _ => rfl) (fun r1 S2 h3 o4 => ?_)
  refine G_if_ne (q := 9) (t := 11) cx dX7_two_6 rfl (by decide) (fun c5 => ?_) (fun c5 => ?_)
  · refine G_iload_n (q := 12) cx dX7_two_11 rfl rfl ?_
    refine G_callS (q := 15) (d' := 1) (As := [.int a1]) (rest := []) (stk := fun r6 => [.int r6]) cx dX7_two_12 rfl ml_RX7_162 rfl rfl (Nat.le_of_ble_eq_true rfl) (Nat.le_of_ble_eq_true rfl) (Nat.le_of_ble_eq_true rfl) (c_X7_isPace l hJ _ a1) (fun _ => rfl) (fun r6 S7 h8 o9 => ?_)
    refine G_if_ne (q := 18) (t := 21) cx dX7_two_15 rfl (by decide) (fun c10 => ?_) (fun c10 => ?_)
    · refine G_bipush (q := 23) (v := (-5 : Int32)) cx dX7_two_21 rfl (by decide) ?_
      refine G_istore_n (q := 24) (ls' := [(3, .int (-5 : Int32)), (0, .ref (ad 7 0)), (1, .int a1), (2, .int a2)]) cx dX7_two_23 rfl rfl (Nat.le_of_ble_eq_true rfl) rfl ?_
      refine G_ldc (q := 26) (v := (1000000000 : Int32)) cx dX7_two_24 rfl (inG (inT 590 (by decide +kernel)) rfl) ?_
      refine G_istore (q := 28) (ls' := [(4, .int (1000000000 : Int32)), (3, .int (-5 : Int32)), (0, .ref (ad 7 0)), (1, .int a1), (2, .int a2)]) cx dX7_two_26 rfl (Nat.le_of_ble_eq_true rfl) rfl ?_
      refine G_iconst (q := 29) (v := (0 : Int32)) cx dX7_two_28 rfl (by decide) ?_
      refine G_istore (q := 31) (ls' := [(5, .int (0 : Int32)), (4, .int (1000000000 : Int32)), (3, .int (-5 : Int32)), (0, .ref (ad 7 0)), (1, .int a1), (2, .int a2)]) cx dX7_two_29 rfl (Nat.le_of_ble_eq_true rfl) rfl ?_
      have lp_11 : ∀ (K_11 : Int32 → Int32 → Int32 → St → Option (Int32 × St)) (hK_11 : ∀ (y3_11 : Int32) (y4_11 : Int32) (y5_11 : Int32) (T_11 : St), TG p l e 7 s m ([.ref (ad 7 0), .int a1, .int a2] : List Value).toArray below meth c D cy ad (nX k) toI okT T_11 129 [(3, .int y3_11), (4, .int y4_11), (5, .int y5_11), (0, .ref (ad 7 0)), (1, .int a1), (2, .int a2)] [] (K_11 y3_11 y4_11 y5_11 T_11)), ∀ (n_11 : Nat) (x3_11 : Int32) (x4_11 : Int32) (x5_11 : Int32) (S_11 : St), TG p l e 7 s m ([.ref (ad 7 0), .int a1, .int a2] : List Value).toArray below meth c D cy ad (nX k) toI okT S_11 31 [(3, .int x3_11), (4, .int x4_11), (5, .int x5_11), (0, .ref (ad 7 0)), (1, .int a1), (2, .int a2)] [] (L_X7_two_31 a1 K_11 n_11 x3_11 x4_11 x5_11 S_11) := by
        intro K_11 hK_11 n_11
        induction n_11 with
        | zero => intros; exact G_none
        | succ n_11 ih_11 =>
          intro x3_11 x4_11 x5_11 S_11
          rw [L_X7_two_31.eq_2]
          refine G_iload (q := 33) cx dX7_two_31 rfl rfl ?_
          refine G_aload_n (q := 34) cx dX7_two_33 rfl rfl ?_
          refine G_getr (q := 37) (g := 5) (i' := 0) cx dX7_two_34 rfl cf_7 fl_RX7_23 (Nat.le_of_ble_eq_true rfl) rfl rfl (Nat.le_of_ble_eq_true rfl) ?_
          refine G_geti (q := 40) cx dX7_two_37 rfl cf_5 fl_RX7_81 (Nat.le_of_ble_eq_true rfl) rfl (Nat.le_of_ble_eq_true rfl) ?_
          refine G_icmp_ge (q := 43) (t := 129) cx dX7_two_40 rfl (by decide) (fun c14 => ?_) (fun c14 => ?_)
          · exact G_loc [0, 1, 2, 3, 4, 5] rfl (hK_11 x3_11 x4_11 x5_11 S_11)
          refine G_iconst (q := 44) (v := (0 : Int32)) cx dX7_two_43 rfl (by decide) ?_
          refine G_istore (q := 46) (ls' := [(6, .int (0 : Int32)), (3, .int x3_11), (4, .int x4_11), (5, .int x5_11), (0, .ref (ad 7 0)), (1, .int a1), (2, .int a2)]) cx dX7_two_44 rfl (Nat.le_of_ble_eq_true rfl) rfl ?_
          have lp_15 : ∀ (K_15 : Int32 → Int32 → Int32 → St → Option (Int32 × St)) (hK_15 : ∀ (y3_15 : Int32) (y4_15 : Int32) (y6_15 : Int32) (T_15 : St), TG p l e 7 s m ([.ref (ad 7 0), .int a1, .int a2] : List Value).toArray below meth c D cy ad (nX k) toI okT T_15 123 [(3, .int y3_15), (4, .int y4_15), (6, .int y6_15), (5, .int x5_11), (0, .ref (ad 7 0)), (1, .int a1), (2, .int a2)] [] (K_15 y3_15 y4_15 y6_15 T_15)), ∀ (n_15 : Nat) (x3_15 : Int32) (x4_15 : Int32) (x6_15 : Int32) (S_15 : St), TG p l e 7 s m ([.ref (ad 7 0), .int a1, .int a2] : List Value).toArray below meth c D cy ad (nX k) toI okT S_15 46 [(3, .int x3_15), (4, .int x4_15), (6, .int x6_15), (5, .int x5_11), (0, .ref (ad 7 0)), (1, .int a1), (2, .int a2)] [] (L_X7_two_46 a1 x5_11 K_15 n_15 x3_15 x4_15 x6_15 S_15) := by
            intro K_15 hK_15 n_15
            induction n_15 with
            | zero => intros; exact G_none
            | succ n_15 ih_15 =>
              intro x3_15 x4_15 x6_15 S_15
              rw [L_X7_two_46.eq_2]
              refine G_iload (q := 48) cx dX7_two_46 rfl rfl ?_
              refine G_aload_n (q := 49) cx dX7_two_48 rfl rfl ?_
              refine G_getr (q := 52) (g := 5) (i' := 0) cx dX7_two_49 rfl cf_7 fl_RX7_23 (Nat.le_of_ble_eq_true rfl) rfl rfl (Nat.le_of_ble_eq_true rfl) ?_
              refine G_geti (q := 55) cx dX7_two_52 rfl cf_5 fl_RX7_81 (Nat.le_of_ble_eq_true rfl) rfl (Nat.le_of_ble_eq_true rfl) ?_
              refine G_icmp_ge (q := 58) (t := 123) cx dX7_two_55 rfl (by decide) (fun c16 => ?_) (fun c16 => ?_)
              · exact G_loc [0, 1, 2, 3, 4, 5, 6] rfl (hK_15 x3_15 x4_15 x6_15 S_15)
              refine G_iload (q := 60) cx dX7_two_58 rfl rfl ?_
              refine G_iload (q := 62) cx dX7_two_60 rfl rfl ?_
              refine G_icmp_ne (q := 65) (t := 70) cx dX7_two_62 rfl (by decide) (fun c17 => ?_) (fun c17 => ?_)
              · refine G_aload_n (q := 71) cx dX7_two_70 rfl rfl ?_
                refine G_aload_n (q := 72) cx dX7_two_71 rfl rfl ?_
                refine G_getr (q := 75) (g := 5) (i' := 0) cx dX7_two_72 rfl cf_7 fl_RX7_23 (Nat.le_of_ble_eq_true rfl) rfl rfl (Nat.le_of_ble_eq_true rfl) ?_
                refine G_getr (q := 78) (g := 12) (i' := 0) cx dX7_two_75 rfl cf_5 fl_RX7_84 (Nat.le_of_ble_eq_true rfl) rfl rfl (Nat.le_of_ble_eq_true rfl) ?_
                refine G_iload (q := 80) cx dX7_two_78 rfl rfl ?_
                refine G_aaldL (q := 81) cx dX7_two_80 rfl (Nat.le_of_ble_eq_true rfl) (fun g18 g19 => ?_)
                refine G_aload_n (q := 82) cx dX7_two_81 rfl rfl ?_
                refine G_getr (q := 85) (g := 5) (i' := 0) cx dX7_two_82 rfl cf_7 fl_RX7_23 (Nat.le_of_ble_eq_true rfl) rfl rfl (Nat.le_of_ble_eq_true rfl) ?_
                refine G_getr (q := 88) (g := 12) (i' := 0) cx dX7_two_85 rfl cf_5 fl_RX7_84 (Nat.le_of_ble_eq_true rfl) rfl rfl (Nat.le_of_ble_eq_true rfl) ?_
                refine G_iload (q := 90) cx dX7_two_88 rfl rfl ?_
                refine G_aaldL (q := 91) cx dX7_two_90 rfl (Nat.le_of_ble_eq_true rfl) (fun g20 g21 => ?_)
                refine G_iload_n (q := 92) cx dX7_two_91 rfl rfl ?_
                refine G_callV (q := 95) (d' := 6) (f := 7) (i := 0) (As := [.ref (ad 3 (6 * 0 + x5_11.toNatClampNeg)), .ref (ad 3 (6 * 0 + x6_15.toNatClampNeg)), .int a1]) (rest := []) (stk := fun r22 => [.int r22]) cx dX7_two_92 rfl cf_7 (Nat.le_of_ble_eq_true rfl) ml_RX7_207 rfl rfl (Nat.le_of_ble_eq_true rfl) (Nat.le_of_ble_eq_true rfl) (Nat.le_of_ble_eq_true rfl) (c_X7_minutesByTwo l hJ _ (6 * 0 + x5_11.toNatClampNeg) (6 * 0 + x6_15.toNatClampNeg) a1 (by show 6 * 0 + x5_11.toNatClampNeg < 12; omega) (by show 6 * 0 + x6_15.toNatClampNeg < 12; omega)) (fun _ => rfl) (fun r22 S23 h24 o25 => ?_)
                refine G_istore (q := 97) (ls' := [(7, .int r22), (3, .int x3_15), (4, .int x4_15), (6, .int x6_15), (5, .int x5_11), (0, .ref (ad 7 0)), (1, .int a1), (2, .int a2)]) cx dX7_two_95 rfl (Nat.le_of_ble_eq_true rfl) rfl ?_
                refine G_iload (q := 99) cx dX7_two_97 rfl rfl ?_
                refine G_iload (q := 101) cx dX7_two_99 rfl rfl ?_
                refine G_icmp_ge (q := 104) (t := 117) cx dX7_two_101 rfl (by decide) (fun c26 => ?_) (fun c26 => ?_)
                · refine G_iinc (q := 120) (j := 3) (v := x6_15 + 1) (ls' := [(6, .int (x6_15 + 1)), (7, .int r22), (3, .int x3_15), (4, .int x4_15), (5, .int x5_11), (0, .ref (ad 7 0)), (1, .int a1), (2, .int a2)]) cx dX7_two_117 rfl rfl rfl (Nat.le_of_ble_eq_true rfl) rfl ?_
                  refine G_goto (t := 46) cx dX7_two_120 (by decide) ?_
                  exact G_loc [2, 3, 0, 4, 5, 6, 7] rfl (ih_15 x3_15 x4_15 (x6_15 + 1) S23)
                refine G_iload (q := 106) cx dX7_two_104 rfl rfl ?_
                refine G_istore (q := 108) (ls' := [(4, .int r22), (7, .int r22), (3, .int x3_15), (6, .int x6_15), (5, .int x5_11), (0, .ref (ad 7 0)), (1, .int a1), (2, .int a2)]) cx dX7_two_106 rfl (Nat.le_of_ble_eq_true rfl) rfl ?_
                refine G_bipush (q := 110) (v := (10 : Int32)) cx dX7_two_108 rfl (by decide) ?_
                refine G_iload (q := 112) cx dX7_two_110 rfl rfl ?_
                refine G_imul (q := 113) cx dX7_two_112 rfl ?_
                refine G_iload (q := 115) cx dX7_two_113 rfl rfl ?_
                refine G_iadd (q := 116) cx dX7_two_115 rfl ?_
                refine G_istore_n (q := 117) (ls' := [(3, .int (((10 : Int32) * x5_11) + x6_15)), (4, .int r22), (7, .int r22), (6, .int x6_15), (5, .int x5_11), (0, .ref (ad 7 0)), (1, .int a1), (2, .int a2)]) cx dX7_two_116 rfl rfl (Nat.le_of_ble_eq_true rfl) rfl ?_
                refine G_iinc (q := 120) (j := 3) (v := x6_15 + 1) (ls' := [(6, .int (x6_15 + 1)), (3, .int (((10 : Int32) * x5_11) + x6_15)), (4, .int r22), (7, .int r22), (5, .int x5_11), (0, .ref (ad 7 0)), (1, .int a1), (2, .int a2)]) cx dX7_two_117 rfl rfl rfl (Nat.le_of_ble_eq_true rfl) rfl ?_
                refine G_goto (t := 46) cx dX7_two_120 (by decide) ?_
                exact G_loc [1, 2, 0, 4, 5, 6, 7] rfl (ih_15 (((10 : Int32) * x5_11) + x6_15) r22 (x6_15 + 1) S23)
              refine G_ldc (q := 67) (v := (1000000000 : Int32)) cx dX7_two_65 rfl (inG (inT 590 (by decide +kernel)) rfl) ?_
              refine G_goto (t := 95) cx dX7_two_67 (by decide) ?_
              refine G_istore (q := 97) (ls' := [(7, .int (1000000000 : Int32)), (3, .int x3_15), (4, .int x4_15), (6, .int x6_15), (5, .int x5_11), (0, .ref (ad 7 0)), (1, .int a1), (2, .int a2)]) cx dX7_two_95 rfl (Nat.le_of_ble_eq_true rfl) rfl ?_
              refine G_iload (q := 99) cx dX7_two_97 rfl rfl ?_
              refine G_iload (q := 101) cx dX7_two_99 rfl rfl ?_
              refine G_icmp_ge (q := 104) (t := 117) cx dX7_two_101 rfl (by decide) (fun c27 => ?_) (fun c27 => ?_)
              · refine G_iinc (q := 120) (j := 3) (v := x6_15 + 1) (ls' := [(6, .int (x6_15 + 1)), (7, .int (1000000000 : Int32)), (3, .int x3_15), (4, .int x4_15), (5, .int x5_11), (0, .ref (ad 7 0)), (1, .int a1), (2, .int a2)]) cx dX7_two_117 rfl rfl rfl (Nat.le_of_ble_eq_true rfl) rfl ?_
                refine G_goto (t := 46) cx dX7_two_120 (by decide) ?_
                exact G_loc [2, 3, 0, 4, 5, 6, 7] rfl (ih_15 x3_15 x4_15 (x6_15 + 1) S_15)
              refine G_iload (q := 106) cx dX7_two_104 rfl rfl ?_
              refine G_istore (q := 108) (ls' := [(4, .int (1000000000 : Int32)), (7, .int (1000000000 : Int32)), (3, .int x3_15), (6, .int x6_15), (5, .int x5_11), (0, .ref (ad 7 0)), (1, .int a1), (2, .int a2)]) cx dX7_two_106 rfl (Nat.le_of_ble_eq_true rfl) rfl ?_
              refine G_bipush (q := 110) (v := (10 : Int32)) cx dX7_two_108 rfl (by decide) ?_
              refine G_iload (q := 112) cx dX7_two_110 rfl rfl ?_
              refine G_imul (q := 113) cx dX7_two_112 rfl ?_
              refine G_iload (q := 115) cx dX7_two_113 rfl rfl ?_
              refine G_iadd (q := 116) cx dX7_two_115 rfl ?_
              refine G_istore_n (q := 117) (ls' := [(3, .int (((10 : Int32) * x5_11) + x6_15)), (4, .int (1000000000 : Int32)), (7, .int (1000000000 : Int32)), (6, .int x6_15), (5, .int x5_11), (0, .ref (ad 7 0)), (1, .int a1), (2, .int a2)]) cx dX7_two_116 rfl rfl (Nat.le_of_ble_eq_true rfl) rfl ?_
              refine G_iinc (q := 120) (j := 3) (v := x6_15 + 1) (ls' := [(6, .int (x6_15 + 1)), (3, .int (((10 : Int32) * x5_11) + x6_15)), (4, .int (1000000000 : Int32)), (7, .int (1000000000 : Int32)), (5, .int x5_11), (0, .ref (ad 7 0)), (1, .int a1), (2, .int a2)]) cx dX7_two_117 rfl rfl rfl (Nat.le_of_ble_eq_true rfl) rfl ?_
              refine G_goto (t := 46) cx dX7_two_120 (by decide) ?_
              exact G_loc [1, 2, 0, 4, 5, 6, 7] rfl (ih_15 (((10 : Int32) * x5_11) + x6_15) (1000000000 : Int32) (x6_15 + 1) S_15)
          refine G_loc [1, 2, 0, 3, 4, 5, 6] rfl (lp_15 _ (fun y3_15 y4_15 y6_15 T_15 => ?_) 1000 x3_11 x4_11 (0 : Int32) S_11)
          refine G_iinc (q := 126) (j := 3) (v := x5_11 + 1) (ls' := [(5, .int (x5_11 + 1)), (3, .int y3_15), (4, .int y4_15), (6, .int y6_15), (0, .ref (ad 7 0)), (1, .int a1), (2, .int a2)]) cx dX7_two_123 rfl rfl rfl (Nat.le_of_ble_eq_true rfl) rfl ?_
          refine G_goto (t := 31) cx dX7_two_126 (by decide) ?_
          exact G_loc [1, 2, 0, 4, 5, 6] rfl (ih_11 y3_15 y4_15 (x5_11 + 1) T_15)
      refine G_loc [2, 1, 0, 3, 4, 5] rfl (lp_11 _ (fun y3_11 y4_11 y5_11 T_11 => ?_) 1000 (-5 : Int32) (1000000000 : Int32) (0 : Int32) S7)
      refine G_iload_n (q := 130) cx dX7_two_129 rfl rfl ?_
      refine G_if_eq (q := 133) (t := 139) cx dX7_two_130 rfl (by decide) (fun c12 => ?_) (fun c12 => ?_)
      · refine G_iload_n (q := 140) cx dX7_two_139 rfl rfl ?_
        refine G_goto (t := 145) cx dX7_two_140 (by decide) ?_
        exact G_iret cx rfl dX7_two_145 trivial
      refine G_iload_n (q := 134) cx dX7_two_133 rfl rfl ?_
      refine G_bipush (q := 136) (v := (-5 : Int32)) cx dX7_two_134 rfl (by decide) ?_
      refine G_icmp_ne (q := 139) (t := 143) cx dX7_two_136 rfl (by decide) (fun c13 => ?_) (fun c13 => ?_)
      · refine G_iload (q := 145) cx dX7_two_143 rfl rfl ?_
        exact G_iret cx rfl dX7_two_145 trivial
      · refine G_iload_n (q := 140) cx dX7_two_139 rfl rfl ?_
        refine G_goto (t := 145) cx dX7_two_140 (by decide) ?_
        exact G_iret cx rfl dX7_two_145 trivial
    · refine G_bipush (q := 20) (v := (-2 : Int32)) cx dX7_two_18 rfl (by decide) ?_
      exact G_iret cx rfl dX7_two_20 trivial
  · refine G_iconst (q := 10) (v := (-1 : Int32)) cx dX7_two_9 rfl (by decide) ?_
    exact G_iret cx rfl dX7_two_10 trivial
def F_X7_minutesForWorth (S : St) (a0 : Int32) : Option (Int32 × St) :=
  if a0 = (1000000000 : Int32) then (some ((999 : Int32), S))
  else (some (a0 / (100 : Int32), S))
set_option maxRecDepth 10000 in
theorem c_X7_minutesForWorth (l : Launch) {D : va_G} {cy : Nat → ClassId} {ad : Nat → Nat → Nat} {k : Nat} (hJ : wJ ad (nX k)) (S : St) (a0 : Int32) : CT l yX7_minutesForWorth cX7_minutesForWorth 1 (some .int) 0 D cy ad (nX k) toI okT [.int a0] S (F_X7_minutesForWorth S a0) := by
  refine CT.of RX7 (by decide) rfl hJ (Nat.le_of_ble_eq_true rfl) rfl ?_
  intro p e s m below meth c cx
  unfold F_X7_minutesForWorth
  refine G_iload_n (q := 1) cx dX7_minutesForWorth_0 rfl rfl ?_
  refine G_ldc (q := 3) (v := (1000000000 : Int32)) cx dX7_minutesForWorth_1 rfl (inG (inT 590 (by decide +kernel)) rfl) ?_
  refine G_icmp_ne (q := 6) (t := 12) cx dX7_minutesForWorth_3 rfl (by decide) (fun c1 => ?_) (fun c1 => ?_)
  · refine G_iload_n (q := 13) cx dX7_minutesForWorth_12 rfl rfl ?_
    refine G_bipush (q := 15) (v := (100 : Int32)) cx dX7_minutesForWorth_13 rfl (by decide) ?_
    refine G_idiv (q := 16) cx dX7_minutesForWorth_15 rfl (by decide) ?_
    exact G_iret cx rfl dX7_minutesForWorth_16 trivial
  · refine G_sipush (q := 9) (v := (999 : Int32)) cx dX7_minutesForWorth_6 rfl (by decide) ?_
    refine G_goto (t := 16) cx dX7_minutesForWorth_9 (by decide) ?_
    exact G_iret cx rfl dX7_minutesForWorth_16 trivial
def F_X7_worth (S : St) (a1 : Int32) : Option (Int32 × St) :=
  bnd (F_X7_isLift S a1) (fun r1 S2 =>
  if r1 = 0 then (some ((-1 : Int32), S2))
  else (bnd (F_X7_quickest S2 a1) (fun r6 S7 =>
  bnd (F_X7_minutesForWorth S7 r6) (fun r10 S11 =>
  bnd (F_X7_quickest S11 (-5 : Int32)) (fun r14 S15 =>
  bnd (F_X7_minutesForWorth S15 r14) (fun r18 S19 =>
  some (r10 - r18, S19)))))))
set_option maxRecDepth 10000 in
theorem c_X7_worth (l : Launch) {D : va_G} {cy : Nat → ClassId} {ad : Nat → Nat → Nat} {k : Nat} (hJ : wJ ad (nX k)) (S : St) (a1 : Int32) : CT l yX7_worth cX7_worth 2 (some .int) 7 D cy ad (nX k) toI okT [.ref (ad 7 0), .int a1] S (F_X7_worth S a1) := by
  refine CT.of RX7 (by decide) rfl hJ (Nat.le_of_ble_eq_true rfl) rfl ?_
  intro p e s m below meth c cx
  unfold F_X7_worth
  refine G_aload_n (q := 1) cx dX7_worth_0 rfl rfl ?_
  refine G_iload_n (q := 2) cx dX7_worth_1 rfl rfl ?_
  refine G_callV (q := 5) (d' := 0) (f := 7) (i := 0) (As := [.int a1]) (rest := []) (stk := fun r1 => [.int r1]) cx dX7_worth_2 rfl cf_7 (Nat.le_of_ble_eq_true rfl) ml_RX7_94 rfl rfl (Nat.le_of_ble_eq_true rfl) (Nat.le_of_ble_eq_true rfl) (Nat.le_of_ble_eq_true rfl) (c_X7_isLift l hJ _ a1) (fun _ => rfl) (fun r1 S2 h3 o4 => ?_)
  refine G_if_ne (q := 8) (t := 10) cx dX7_worth_5 rfl (by decide) (fun c5 => ?_) (fun c5 => ?_)
  · refine G_aload_n (q := 11) cx dX7_worth_10 rfl rfl ?_
    refine G_iload_n (q := 12) cx dX7_worth_11 rfl rfl ?_
    refine G_callV (q := 15) (d' := 6) (f := 7) (i := 0) (As := [.int a1]) (rest := []) (stk := fun r6 => [.int r6]) cx dX7_worth_12 rfl cf_7 (Nat.le_of_ble_eq_true rfl) ml_RX7_203 rfl rfl (Nat.le_of_ble_eq_true rfl) (Nat.le_of_ble_eq_true rfl) (Nat.le_of_ble_eq_true rfl) (c_X7_quickest l hJ _ a1) (fun _ => rfl) (fun r6 S7 h8 o9 => ?_)
    refine G_callS (q := 18) (d' := 0) (As := [.int r6]) (rest := []) (stk := fun r10 => [.int r10]) cx dX7_worth_15 rfl ml_RX7_211 rfl rfl (Nat.le_of_ble_eq_true rfl) (Nat.le_of_ble_eq_true rfl) (Nat.le_of_ble_eq_true rfl) (c_X7_minutesForWorth l hJ _ r6) (fun _ => rfl) (fun r10 S11 h12 o13 => ?_)
    refine G_aload_n (q := 19) cx dX7_worth_18 rfl rfl ?_
    refine G_bipush (q := 21) (v := (-5 : Int32)) cx dX7_worth_19 rfl (by decide) ?_
    refine G_callV (q := 24) (d' := 6) (f := 7) (i := 0) (As := [.int (-5 : Int32)]) (rest := [.int r10]) (stk := fun r14 => [.int r14, .int r10]) cx dX7_worth_21 rfl cf_7 (Nat.le_of_ble_eq_true rfl) ml_RX7_203 rfl rfl (Nat.le_of_ble_eq_true rfl) (Nat.le_of_ble_eq_true rfl) (Nat.le_of_ble_eq_true rfl) (c_X7_quickest l hJ _ (-5 : Int32)) (fun _ => rfl) (fun r14 S15 h16 o17 => ?_)
    refine G_callS (q := 27) (d' := 0) (As := [.int r14]) (rest := [.int r10]) (stk := fun r18 => [.int r18, .int r10]) cx dX7_worth_24 rfl ml_RX7_211 rfl rfl (Nat.le_of_ble_eq_true rfl) (Nat.le_of_ble_eq_true rfl) (Nat.le_of_ble_eq_true rfl) (c_X7_minutesForWorth l hJ _ r14) (fun _ => rfl) (fun r18 S19 h20 o21 => ?_)
    refine G_isub (q := 28) cx dX7_worth_27 rfl ?_
    exact G_iret cx rfl dX7_worth_28 trivial
  · refine G_iconst (q := 9) (v := (-1 : Int32)) cx dX7_worth_8 rfl (by decide) ?_
    exact G_iret cx rfl dX7_worth_9 trivial
def F_X7_tellRow (S : St) (a1 : Nat) (a2 : Int32) (a3 : Int32) (a4 : Int32) (a5 : Int32) : Option (Int32 × St) :=
  if a2 = (-1 : Int32) then (some ((0 : Int32), (sI S 4 a1 2 (0 : Int32))))
  else (bnd (F_X7_isLift S a2) (fun r2 S3 =>
  if r2 = 0 then (some ((-1 : Int32), S3))
  else (bnd (F_X7_isWithin S3 a3 a4 a5) (fun r7 S8 =>
  if r7 = 0 then (some ((-2 : Int32), S8))
  else (bnd (F_X4_add S8 a1 a2 a3) (fun r12 S13 =>
  some (r12, S13)))))))
set_option maxRecDepth 10000 in
theorem c_X7_tellRow (l : Launch) {D : va_G} {cy : Nat → ClassId} {ad : Nat → Nat → Nat} {k : Nat} (hJ : wJ ad (nX k)) (S : St) (a1 : Nat) (a2 : Int32) (a3 : Int32) (a4 : Int32) (a5 : Int32) (h_a1 : a1 < 6) : CT l yX7_tellRow cX7_tellRow 6 (some .int) 1 D cy ad (nX k) toI okT [.ref (ad 7 0), .ref (ad 4 a1), .int a2, .int a3, .int a4, .int a5] S (F_X7_tellRow S a1 a2 a3 a4 a5) := by
  refine CT.of RX7 (by decide) rfl hJ (Nat.le_of_ble_eq_true rfl) rfl ?_
  intro p e s m below meth c cx
  unfold F_X7_tellRow
  refine G_iload_n (q := 1) cx dX7_tellRow_0 rfl rfl ?_
  refine G_iconst (q := 2) (v := (-1 : Int32)) cx dX7_tellRow_1 rfl (by decide) ?_
  refine G_icmp_ne (q := 5) (t := 12) cx dX7_tellRow_2 rfl (by decide) (fun c1 => ?_) (fun c1 => ?_)
  · refine G_aload_n (q := 13) cx dX7_tellRow_12 rfl rfl ?_
    refine G_iload_n (q := 14) cx dX7_tellRow_13 rfl rfl ?_
    refine G_callV (q := 17) (d' := 0) (f := 7) (i := 0) (As := [.int a2]) (rest := []) (stk := fun r2 => [.int r2]) cx dX7_tellRow_14 rfl cf_7 (Nat.le_of_ble_eq_true rfl) ml_RX7_94 rfl rfl (Nat.le_of_ble_eq_true rfl) (Nat.le_of_ble_eq_true rfl) (Nat.le_of_ble_eq_true rfl) (c_X7_isLift l hJ _ a2) (fun _ => rfl) (fun r2 S3 h4 o5 => ?_)
    refine G_if_ne (q := 20) (t := 22) cx dX7_tellRow_17 rfl (by decide) (fun c6 => ?_) (fun c6 => ?_)
    · refine G_iload_n (q := 23) cx dX7_tellRow_22 rfl rfl ?_
      refine G_iload (q := 25) cx dX7_tellRow_23 rfl rfl ?_
      refine G_iload (q := 27) cx dX7_tellRow_25 rfl rfl ?_
      refine G_callS (q := 30) (d' := 0) (As := [.int a3, .int a4, .int a5]) (rest := []) (stk := fun r7 => [.int r7]) cx dX7_tellRow_27 rfl ml_RX7_74 rfl rfl (Nat.le_of_ble_eq_true rfl) (Nat.le_of_ble_eq_true rfl) (Nat.le_of_ble_eq_true rfl) (c_X7_isWithin l hJ _ a3 a4 a5) (fun _ => rfl) (fun r7 S8 h9 o10 => ?_)
      refine G_if_eq (q := 33) (t := 42) cx dX7_tellRow_30 rfl (by decide) (fun c11 => ?_) (fun c11 => ?_)
      · refine G_bipush (q := 44) (v := (-2 : Int32)) cx dX7_tellRow_42 rfl (by decide) ?_
        exact G_iret cx rfl dX7_tellRow_44 trivial
      refine G_aload_n (q := 34) cx dX7_tellRow_33 rfl rfl ?_
      refine G_iload_n (q := 35) cx dX7_tellRow_34 rfl rfl ?_
      refine G_iload_n (q := 36) cx dX7_tellRow_35 rfl rfl ?_
      refine G_callV (q := 39) (d' := 0) (f := 4) (i := a1) (As := [.int a2, .int a3]) (rest := []) (stk := fun r12 => [.int r12]) cx dX7_tellRow_36 rfl cf_4 h_a1 ml_RX7_235 rfl rfl (Nat.le_of_ble_eq_true rfl) (Nat.le_of_ble_eq_true rfl) (Nat.le_of_ble_eq_true rfl) (c_X4_add l hJ _ a1 a2 a3 h_a1) (fun _ => rfl) (fun r12 S13 h14 o15 => ?_)
      refine G_goto (t := 44) cx dX7_tellRow_39 (by decide) ?_
      exact G_iret cx rfl dX7_tellRow_44 trivial
    · refine G_iconst (q := 21) (v := (-1 : Int32)) cx dX7_tellRow_20 rfl (by decide) ?_
      exact G_iret cx rfl dX7_tellRow_21 trivial
  refine G_aload_n (q := 6) cx dX7_tellRow_5 rfl rfl ?_
  refine G_iconst (q := 7) (v := (0 : Int32)) cx dX7_tellRow_6 rfl (by decide) ?_
  refine G_puti (q := 10) cx dX7_tellRow_7 rfl cf_4 fl_RX7_222 (Nat.le_of_ble_eq_true rfl) rfl rfl rfl rfl rfl h_a1 ?_
  refine G_iconst (q := 11) (v := (0 : Int32)) cx dX7_tellRow_10 rfl (by decide) ?_
  exact G_iret cx rfl dX7_tellRow_11 trivial
def F_X7_leg (S : St) (a1 : Int32) (a2 : Int32) : Option (Int32 × St) :=
  bnd (F_X7_tellRow S 0 a1 a2 (0 : Int32) (60 : Int32)) (fun r1 S2 =>
  some (r1, S2))
set_option maxRecDepth 10000 in
theorem c_X7_leg (l : Launch) {D : va_G} {cy : Nat → ClassId} {ad : Nat → Nat → Nat} {k : Nat} (hJ : wJ ad (nX k)) (S : St) (a1 : Int32) (a2 : Int32) : CT l yX7_leg cX7_leg 3 (some .int) 2 D cy ad (nX k) toI okT [.ref (ad 7 0), .int a1, .int a2] S (F_X7_leg S a1 a2) := by
  refine CT.of RX7 (by decide) rfl hJ (Nat.le_of_ble_eq_true rfl) rfl ?_
  intro p e s m below meth c cx
  unfold F_X7_leg
  refine G_aload_n (q := 1) cx dX7_leg_0 rfl rfl ?_
  refine G_aload_n (q := 2) cx dX7_leg_1 rfl rfl ?_
  refine G_getr (q := 5) (g := 5) (i' := 0) cx dX7_leg_2 rfl cf_7 fl_RX7_23 (Nat.le_of_ble_eq_true rfl) rfl rfl (Nat.le_of_ble_eq_true rfl) ?_
  refine G_getr (q := 8) (g := 4) (i' := 0) cx dX7_leg_5 rfl cf_5 fl_RX7_214 (Nat.le_of_ble_eq_true rfl) rfl rfl (Nat.le_of_ble_eq_true rfl) ?_
  refine G_iload_n (q := 9) cx dX7_leg_8 rfl rfl ?_
  refine G_iload_n (q := 10) cx dX7_leg_9 rfl rfl ?_
  refine G_iconst (q := 11) (v := (0 : Int32)) cx dX7_leg_10 rfl (by decide) ?_
  refine G_bipush (q := 13) (v := (60 : Int32)) cx dX7_leg_11 rfl (by decide) ?_
  refine G_callV (q := 16) (d' := 1) (f := 7) (i := 0) (As := [.ref (ad 4 0), .int a1, .int a2, .int (0 : Int32), .int (60 : Int32)]) (rest := []) (stk := fun r1 => [.int r1]) cx dX7_leg_13 rfl cf_7 (Nat.le_of_ble_eq_true rfl) ml_RX7_218 rfl rfl (Nat.le_of_ble_eq_true rfl) (Nat.le_of_ble_eq_true rfl) (Nat.le_of_ble_eq_true rfl) (c_X7_tellRow l hJ _ 0 a1 a2 (0 : Int32) (60 : Int32) (Nat.le_of_ble_eq_true rfl)) (fun _ => rfl) (fun r1 S2 h3 o4 => ?_)
  exact G_iret cx rfl dX7_leg_16 trivial
def L_X7_flown_37 (a1 : Int32) (K_15 : Int32 → St → Option (Int32 × St)) : Nat → Int32 → St → Option (Int32 × St)
  | 0, _, _ => none
  | n + 1, x3_15, S_15 =>
    if (gI S_15 4 0 2) ≤ x3_15 then (K_15 x3_15 S_15)
    else (if 0 ≤ x3_15 ∧ x3_15.toNatClampNeg < 4 then (if 0 ≤ (gI S_15 14 0 x3_15.toNatClampNeg) ∧ (gI S_15 14 0 x3_15.toNatClampNeg).toNatClampNeg < 6 then (bnd (F_X2_glides S_15 2 (gI S_15 3 (6 * 0 + (gI S_15 14 0 x3_15.toNatClampNeg).toNatClampNeg) 4) a1) (fun r27 S28 =>
    if r27 = 0 then (some ((-5 : Int32), S28))
    else ((gR S28 5 0 8).elim (if 0 ≤ x3_15 ∧ x3_15.toNatClampNeg < 4 then none
    else none)
    (fun p32 => if 0 ≤ x3_15 ∧ x3_15.toNatClampNeg < 4 then (bnd (F_X2_circles S28 2 (6 * 0 + (gI S_15 14 0 x3_15.toNatClampNeg).toNatClampNeg) p32 (gI S28 15 0 x3_15.toNatClampNeg)) (fun r39 S40 =>
    L_X7_flown_37 a1 K_15 n (x3_15 + 1) S40))
    else none))))
    else none)
    else none)
def F_X7_flown (S : St) (a1 : Int32) (a2 : Int32) : Option (Int32 × St) :=
  bnd (F_X7_isWithin S a2 (0 : Int32) (1 : Int32)) (fun r1 S2 =>
  if r1 = 0 then (some ((-1 : Int32), S2))
  else (bnd (F_X7_isPace S2 a1) (fun r6 S7 =>
  if r6 = 0 then (some ((-2 : Int32), S7))
  else (bnd (F_X2_copyFrom S7 2 0) (fun r11 S12 =>
  L_X7_flown_37 a1 
  (fun y3_15 T_15 => bnd (F_X2_glides T_15 2 (gI T_15 5 0 7) a1) (fun r16 S17 =>
  if r16 = 0 then (some ((-5 : Int32), S17))
  else (if a2 = 0 then (some (gI S17 2 2 1, S17))
  else (some ((gI S17 2 2 2) - (gI S17 2 0 2), S17))))) 1000 (0 : Int32) S12)))))
set_option maxRecDepth 10000 in
theorem c_X7_flown (l : Launch) {D : va_G} {cy : Nat → ClassId} {ad : Nat → Nat → Nat} {k : Nat} (hJ : wJ ad (nX k)) (S : St) (a1 : Int32) (a2 : Int32) : CT l yX7_flown cX7_flown 5 (some .int) 5 D cy ad (nX k) toI okT [.ref (ad 7 0), .int a1, .int a2] S (F_X7_flown S a1 a2) := by
  refine CT.of RX7 (by decide) rfl hJ (Nat.le_of_ble_eq_true rfl) rfl ?_
  intro p e s m below meth c cx
  unfold F_X7_flown
  refine G_iload_n (q := 1) cx dX7_flown_0 rfl rfl ?_
  refine G_iconst (q := 2) (v := (0 : Int32)) cx dX7_flown_1 rfl (by decide) ?_
  refine G_iconst (q := 3) (v := (1 : Int32)) cx dX7_flown_2 rfl (by decide) ?_
  refine G_callS (q := 6) (d' := 0) (As := [.int a2, .int (0 : Int32), .int (1 : Int32)]) (rest := []) (stk := fun r1 => [.int r1]) cx dX7_flown_3 rfl ml_RX7_74 rfl rfl (Nat.le_of_ble_eq_true rfl) (Nat.le_of_ble_eq_true rfl) (Nat.le_of_ble_eq_true rfl) (c_X7_isWithin l hJ _ a2 (0 : Int32) (1 : Int32)) (fun _ => rfl) (fun r1 S2 h3 o4 => ?_)
  refine G_if_ne (q := 9) (t := 11) cx dX7_flown_6 rfl (by decide) (fun c5 => ?_) (fun c5 => ?_)
  · refine G_iload_n (q := 12) cx dX7_flown_11 rfl rfl ?_
    refine G_callS (q := 15) (d' := 1) (As := [.int a1]) (rest := []) (stk := fun r6 => [.int r6]) cx dX7_flown_12 rfl ml_RX7_162 rfl rfl (Nat.le_of_ble_eq_true rfl) (Nat.le_of_ble_eq_true rfl) (Nat.le_of_ble_eq_true rfl) (c_X7_isPace l hJ _ a1) (fun _ => rfl) (fun r6 S7 h8 o9 => ?_)
    refine G_if_ne (q := 18) (t := 21) cx dX7_flown_15 rfl (by decide) (fun c10 => ?_) (fun c10 => ?_)
    · refine G_aload_n (q := 22) cx dX7_flown_21 rfl rfl ?_
      refine G_getr (q := 25) (g := 2) (i' := 2) cx dX7_flown_22 rfl cf_7 fl_RX7_33 (Nat.le_of_ble_eq_true rfl) rfl rfl (Nat.le_of_ble_eq_true rfl) ?_
      refine G_aload_n (q := 26) cx dX7_flown_25 rfl rfl ?_
      refine G_getr (q := 29) (g := 5) (i' := 0) cx dX7_flown_26 rfl cf_7 fl_RX7_23 (Nat.le_of_ble_eq_true rfl) rfl rfl (Nat.le_of_ble_eq_true rfl) ?_
      refine G_getr (q := 32) (g := 2) (i' := 0) cx dX7_flown_29 rfl cf_5 fl_RX7_112 (Nat.le_of_ble_eq_true rfl) rfl rfl (Nat.le_of_ble_eq_true rfl) ?_
      refine G_callV (q := 35) (d' := 0) (f := 2) (i := 2) (As := [.ref (ad 2 0)]) (rest := []) (stk := fun _ => []) cx dX7_flown_32 rfl cf_2 (Nat.le_of_ble_eq_true rfl) ml_RX7_165 rfl rfl (Nat.le_of_ble_eq_true rfl) (Nat.le_of_ble_eq_true rfl) (Nat.le_of_ble_eq_true rfl) (c_X2_copyFrom l hJ _ 2 0 (Nat.le_of_ble_eq_true rfl) (Nat.le_of_ble_eq_true rfl)) (fun _ => rfl) (fun r11 S12 h13 o14 => ?_)
      refine G_iconst (q := 36) (v := (0 : Int32)) cx dX7_flown_35 rfl (by decide) ?_
      refine G_istore_n (q := 37) (ls' := [(3, .int (0 : Int32)), (0, .ref (ad 7 0)), (1, .int a1), (2, .int a2)]) cx dX7_flown_36 rfl rfl (Nat.le_of_ble_eq_true rfl) rfl ?_
      have lp_15 : ∀ (K_15 : Int32 → St → Option (Int32 × St)) (hK_15 : ∀ (y3_15 : Int32) (T_15 : St), TG p l e 5 s m ([.ref (ad 7 0), .int a1, .int a2] : List Value).toArray below meth c D cy ad (nX k) toI okT T_15 126 [(3, .int y3_15), (0, .ref (ad 7 0)), (1, .int a1), (2, .int a2)] [] (K_15 y3_15 T_15)), ∀ (n_15 : Nat) (x3_15 : Int32) (S_15 : St), TG p l e 5 s m ([.ref (ad 7 0), .int a1, .int a2] : List Value).toArray below meth c D cy ad (nX k) toI okT S_15 37 [(3, .int x3_15), (0, .ref (ad 7 0)), (1, .int a1), (2, .int a2)] [] (L_X7_flown_37 a1 K_15 n_15 x3_15 S_15) := by
        intro K_15 hK_15 n_15
        induction n_15 with
        | zero => intros; exact G_none
        | succ n_15 ih_15 =>
          intro x3_15 S_15
          rw [L_X7_flown_37.eq_2]
          refine G_iload_n (q := 38) cx dX7_flown_37 rfl rfl ?_
          refine G_aload_n (q := 39) cx dX7_flown_38 rfl rfl ?_
          refine G_getr (q := 42) (g := 5) (i' := 0) cx dX7_flown_39 rfl cf_7 fl_RX7_23 (Nat.le_of_ble_eq_true rfl) rfl rfl (Nat.le_of_ble_eq_true rfl) ?_
          refine G_getr (q := 45) (g := 4) (i' := 0) cx dX7_flown_42 rfl cf_5 fl_RX7_214 (Nat.le_of_ble_eq_true rfl) rfl rfl (Nat.le_of_ble_eq_true rfl) ?_
          refine G_geti (q := 48) cx dX7_flown_45 rfl cf_4 fl_RX7_222 (Nat.le_of_ble_eq_true rfl) rfl (Nat.le_of_ble_eq_true rfl) ?_
          refine G_icmp_ge (q := 51) (t := 126) cx dX7_flown_48 rfl (by decide) (fun c22 => ?_) (fun c22 => ?_)
          · exact G_loc [0, 1, 2, 3] rfl (hK_15 x3_15 S_15)
          refine G_aload_n (q := 52) cx dX7_flown_51 rfl rfl ?_
          refine G_getr (q := 55) (g := 5) (i' := 0) cx dX7_flown_52 rfl cf_7 fl_RX7_23 (Nat.le_of_ble_eq_true rfl) rfl rfl (Nat.le_of_ble_eq_true rfl) ?_
          refine G_getr (q := 58) (g := 12) (i' := 0) cx dX7_flown_55 rfl cf_5 fl_RX7_84 (Nat.le_of_ble_eq_true rfl) rfl rfl (Nat.le_of_ble_eq_true rfl) ?_
          refine G_aload_n (q := 59) cx dX7_flown_58 rfl rfl ?_
          refine G_getr (q := 62) (g := 5) (i' := 0) cx dX7_flown_59 rfl cf_7 fl_RX7_23 (Nat.le_of_ble_eq_true rfl) rfl rfl (Nat.le_of_ble_eq_true rfl) ?_
          refine G_getr (q := 65) (g := 4) (i' := 0) cx dX7_flown_62 rfl cf_5 fl_RX7_214 (Nat.le_of_ble_eq_true rfl) rfl rfl (Nat.le_of_ble_eq_true rfl) ?_
          refine G_getr (q := 68) (g := 14) (i' := 0) cx dX7_flown_65 rfl cf_4 fl_RX7_227 (Nat.le_of_ble_eq_true rfl) rfl rfl (Nat.le_of_ble_eq_true rfl) ?_
          refine G_iload_n (q := 69) cx dX7_flown_68 rfl rfl ?_
          refine G_iald (q := 70) cx dX7_flown_69 rfl (by decide) rfl rfl (Nat.le_of_ble_eq_true rfl) (fun g23 g24 => ?_)
          refine G_aaldL (q := 71) cx dX7_flown_70 rfl (Nat.le_of_ble_eq_true rfl) (fun g25 g26 => ?_)
          refine G_astore (q := 73) (ls' := [(4, .ref (ad 3 (6 * 0 + (gI S_15 14 0 x3_15.toNatClampNeg).toNatClampNeg))), (3, .int x3_15), (0, .ref (ad 7 0)), (1, .int a1), (2, .int a2)]) cx dX7_flown_71 rfl (Nat.le_of_ble_eq_true rfl) rfl ?_
          refine G_aload_n (q := 74) cx dX7_flown_73 rfl rfl ?_
          refine G_getr (q := 77) (g := 2) (i' := 2) cx dX7_flown_74 rfl cf_7 fl_RX7_33 (Nat.le_of_ble_eq_true rfl) rfl rfl (Nat.le_of_ble_eq_true rfl) ?_
          refine G_aload (q := 79) cx dX7_flown_77 rfl rfl ?_
          refine G_geti (q := 82) cx dX7_flown_79 rfl cf_3 fl_RX7_103 (Nat.le_of_ble_eq_true rfl) rfl (by show 6 * 0 + (gI S_15 14 0 x3_15.toNatClampNeg).toNatClampNeg < 12; omega) ?_
          refine G_iload_n (q := 83) cx dX7_flown_82 rfl rfl ?_
          refine G_callV (q := 86) (d' := 1) (f := 2) (i := 2) (As := [.int (gI S_15 3 (6 * 0 + (gI S_15 14 0 x3_15.toNatClampNeg).toNatClampNeg) 4), .int a1]) (rest := []) (stk := fun r27 => [.int r27]) cx dX7_flown_83 rfl cf_2 (Nat.le_of_ble_eq_true rfl) ml_RX7_169 rfl rfl (Nat.le_of_ble_eq_true rfl) (Nat.le_of_ble_eq_true rfl) (Nat.le_of_ble_eq_true rfl) (c_X2_glides l hJ _ 2 (gI S_15 3 (6 * 0 + (gI S_15 14 0 x3_15.toNatClampNeg).toNatClampNeg) 4) a1 (Nat.le_of_ble_eq_true rfl)) (fun _ => rfl) (fun r27 S28 h29 o30 => ?_)
          refine G_if_ne (q := 89) (t := 92) cx dX7_flown_86 rfl (by decide) (fun c31 => ?_) (fun c31 => ?_)
          · refine G_aload_n (q := 93) cx dX7_flown_92 rfl rfl ?_
            refine G_getr (q := 96) (g := 2) (i' := 2) cx dX7_flown_93 rfl cf_7 fl_RX7_33 (Nat.le_of_ble_eq_true rfl) rfl rfl (Nat.le_of_ble_eq_true rfl) ?_
            refine G_aload (q := 98) cx dX7_flown_96 rfl rfl ?_
            refine G_aload_n (q := 99) cx dX7_flown_98 rfl rfl ?_
            refine G_getr (q := 102) (g := 5) (i' := 0) cx dX7_flown_99 rfl cf_7 fl_RX7_23 (Nat.le_of_ble_eq_true rfl) rfl rfl (Nat.le_of_ble_eq_true rfl) ?_
            refine G_geta (q := 105) cx dX7_flown_102 rfl cf_5 fl_RX7_109 (Nat.le_of_ble_eq_true rfl) rfl (Nat.le_of_ble_eq_true rfl) (fun e33 => ?_) (fun p32 e34 h_p32 => ?_)
            · refine G_aload_n (q := 106) cx dX7_flown_105 rfl rfl ?_
              refine G_getr (q := 109) (g := 5) (i' := 0) cx dX7_flown_106 rfl cf_7 fl_RX7_23 (Nat.le_of_ble_eq_true rfl) rfl rfl (Nat.le_of_ble_eq_true rfl) ?_
              refine G_getr (q := 112) (g := 4) (i' := 0) cx dX7_flown_109 rfl cf_5 fl_RX7_214 (Nat.le_of_ble_eq_true rfl) rfl rfl (Nat.le_of_ble_eq_true rfl) ?_
              refine G_getr (q := 115) (g := 15) (i' := 0) cx dX7_flown_112 rfl cf_4 fl_RX7_229 (Nat.le_of_ble_eq_true rfl) rfl rfl (Nat.le_of_ble_eq_true rfl) ?_
              refine G_iload_n (q := 116) cx dX7_flown_115 rfl rfl ?_
              refine G_iald (q := 117) cx dX7_flown_116 rfl (by decide) rfl rfl (Nat.le_of_ble_eq_true rfl) (fun g35 g36 => ?_)
              exact G_none
            refine G_aload_n (q := 106) cx dX7_flown_105 rfl rfl ?_
            refine G_getr (q := 109) (g := 5) (i' := 0) cx dX7_flown_106 rfl cf_7 fl_RX7_23 (Nat.le_of_ble_eq_true rfl) rfl rfl (Nat.le_of_ble_eq_true rfl) ?_
            refine G_getr (q := 112) (g := 4) (i' := 0) cx dX7_flown_109 rfl cf_5 fl_RX7_214 (Nat.le_of_ble_eq_true rfl) rfl rfl (Nat.le_of_ble_eq_true rfl) ?_
            refine G_getr (q := 115) (g := 15) (i' := 0) cx dX7_flown_112 rfl cf_4 fl_RX7_229 (Nat.le_of_ble_eq_true rfl) rfl rfl (Nat.le_of_ble_eq_true rfl) ?_
            refine G_iload_n (q := 116) cx dX7_flown_115 rfl rfl ?_
            refine G_iald (q := 117) cx dX7_flown_116 rfl (by decide) rfl rfl (Nat.le_of_ble_eq_true rfl) (fun g37 g38 => ?_)
            refine G_callV (q := 120) (d' := 4) (f := 2) (i := 2) (As := [.ref (ad 3 (6 * 0 + (gI S_15 14 0 x3_15.toNatClampNeg).toNatClampNeg)), .ref (ad 0 p32), .int (gI S28 15 0 x3_15.toNatClampNeg)]) (rest := []) (stk := fun _ => []) cx dX7_flown_117 rfl cf_2 (Nat.le_of_ble_eq_true rfl) ml_RX7_158 rfl rfl (Nat.le_of_ble_eq_true rfl) (Nat.le_of_ble_eq_true rfl) (Nat.le_of_ble_eq_true rfl) (c_X2_circles l hJ _ 2 (6 * 0 + (gI S_15 14 0 x3_15.toNatClampNeg).toNatClampNeg) p32 (gI S28 15 0 x3_15.toNatClampNeg) (Nat.le_of_ble_eq_true rfl) (by show 6 * 0 + (gI S_15 14 0 x3_15.toNatClampNeg).toNatClampNeg < 12; omega) h_p32) (fun _ => rfl) (fun r39 S40 h41 o42 => ?_)
            refine G_iinc (q := 123) (j := 1) (v := x3_15 + 1) (ls' := [(3, .int (x3_15 + 1)), (4, .ref (ad 3 (6 * 0 + (gI S_15 14 0 x3_15.toNatClampNeg).toNatClampNeg))), (0, .ref (ad 7 0)), (1, .int a1), (2, .int a2)]) cx dX7_flown_120 rfl rfl rfl (Nat.le_of_ble_eq_true rfl) rfl ?_
            refine G_goto (t := 37) cx dX7_flown_123 (by decide) ?_
            exact G_loc [0, 2, 3, 4] rfl (ih_15 (x3_15 + 1) S40)
          · refine G_bipush (q := 91) (v := (-5 : Int32)) cx dX7_flown_89 rfl (by decide) ?_
            exact G_iret cx rfl dX7_flown_91 trivial
      refine G_loc [0, 1, 2, 3] rfl (lp_15 _ (fun y3_15 T_15 => ?_) 1000 (0 : Int32) S12)
      refine G_aload_n (q := 127) cx dX7_flown_126 rfl rfl ?_
      refine G_getr (q := 130) (g := 2) (i' := 2) cx dX7_flown_127 rfl cf_7 fl_RX7_33 (Nat.le_of_ble_eq_true rfl) rfl rfl (Nat.le_of_ble_eq_true rfl) ?_
      refine G_aload_n (q := 131) cx dX7_flown_130 rfl rfl ?_
      refine G_getr (q := 134) (g := 5) (i' := 0) cx dX7_flown_131 rfl cf_7 fl_RX7_23 (Nat.le_of_ble_eq_true rfl) rfl rfl (Nat.le_of_ble_eq_true rfl) ?_
      refine G_geti (q := 137) cx dX7_flown_134 rfl cf_5 fl_RX7_145 (Nat.le_of_ble_eq_true rfl) rfl (Nat.le_of_ble_eq_true rfl) ?_
      refine G_iload_n (q := 138) cx dX7_flown_137 rfl rfl ?_
      refine G_callV (q := 141) (d' := 1) (f := 2) (i := 2) (As := [.int (gI T_15 5 0 7), .int a1]) (rest := []) (stk := fun r16 => [.int r16]) cx dX7_flown_138 rfl cf_2 (Nat.le_of_ble_eq_true rfl) ml_RX7_169 rfl rfl (Nat.le_of_ble_eq_true rfl) (Nat.le_of_ble_eq_true rfl) (Nat.le_of_ble_eq_true rfl) (c_X2_glides l hJ _ 2 (gI T_15 5 0 7) a1 (Nat.le_of_ble_eq_true rfl)) (fun _ => rfl) (fun r16 S17 h18 o19 => ?_)
      refine G_if_ne (q := 144) (t := 147) cx dX7_flown_141 rfl (by decide) (fun c20 => ?_) (fun c20 => ?_)
      · refine G_iload_n (q := 148) cx dX7_flown_147 rfl rfl ?_
        refine G_if_ne (q := 151) (t := 161) cx dX7_flown_148 rfl (by decide) (fun c21 => ?_) (fun c21 => ?_)
        · refine G_aload_n (q := 162) cx dX7_flown_161 rfl rfl ?_
          refine G_getr (q := 165) (g := 2) (i' := 2) cx dX7_flown_162 rfl cf_7 fl_RX7_33 (Nat.le_of_ble_eq_true rfl) rfl rfl (Nat.le_of_ble_eq_true rfl) ?_
          refine G_geti (q := 168) cx dX7_flown_165 rfl cf_2 fl_RX7_118 (Nat.le_of_ble_eq_true rfl) rfl (Nat.le_of_ble_eq_true rfl) ?_
          refine G_aload_n (q := 169) cx dX7_flown_168 rfl rfl ?_
          refine G_getr (q := 172) (g := 5) (i' := 0) cx dX7_flown_169 rfl cf_7 fl_RX7_23 (Nat.le_of_ble_eq_true rfl) rfl rfl (Nat.le_of_ble_eq_true rfl) ?_
          refine G_getr (q := 175) (g := 2) (i' := 0) cx dX7_flown_172 rfl cf_5 fl_RX7_112 (Nat.le_of_ble_eq_true rfl) rfl rfl (Nat.le_of_ble_eq_true rfl) ?_
          refine G_geti (q := 178) cx dX7_flown_175 rfl cf_2 fl_RX7_118 (Nat.le_of_ble_eq_true rfl) rfl (Nat.le_of_ble_eq_true rfl) ?_
          refine G_isub (q := 179) cx dX7_flown_178 rfl ?_
          exact G_iret cx rfl dX7_flown_179 trivial
        refine G_aload_n (q := 152) cx dX7_flown_151 rfl rfl ?_
        refine G_getr (q := 155) (g := 2) (i' := 2) cx dX7_flown_152 rfl cf_7 fl_RX7_33 (Nat.le_of_ble_eq_true rfl) rfl rfl (Nat.le_of_ble_eq_true rfl) ?_
        refine G_geti (q := 158) cx dX7_flown_155 rfl cf_2 fl_RX7_115 (Nat.le_of_ble_eq_true rfl) rfl (Nat.le_of_ble_eq_true rfl) ?_
        refine G_goto (t := 179) cx dX7_flown_158 (by decide) ?_
        exact G_iret cx rfl dX7_flown_179 trivial
      · refine G_bipush (q := 146) (v := (-5 : Int32)) cx dX7_flown_144 rfl (by decide) ?_
        exact G_iret cx rfl dX7_flown_146 trivial
    · refine G_bipush (q := 20) (v := (-2 : Int32)) cx dX7_flown_18 rfl (by decide) ?_
      exact G_iret cx rfl dX7_flown_20 trivial
  · refine G_iconst (q := 10) (v := (-1 : Int32)) cx dX7_flown_9 rfl (by decide) ?_
    exact G_iret cx rfl dX7_flown_10 trivial
def F_X7_see (S : St) (a1 : Int32) : Option (Int32 × St) :=
  if a1 = (-100 : Int32) then (some ((0 : Int32), (sI S 4 1 2 (0 : Int32))))
  else (bnd (F_X7_isWithin S a1 (-99 : Int32) (99 : Int32)) (fun r2 S3 =>
  if r2 = 0 then (some ((-2 : Int32), S3))
  else (bnd (F_X4_add S3 1 (0 : Int32) a1) (fun r7 S8 =>
  some (r7, S8)))))
set_option maxRecDepth 10000 in
theorem c_X7_see (l : Launch) {D : va_G} {cy : Nat → ClassId} {ad : Nat → Nat → Nat} {k : Nat} (hJ : wJ ad (nX k)) (S : St) (a1 : Int32) : CT l yX7_see cX7_see 2 (some .int) 1 D cy ad (nX k) toI okT [.ref (ad 7 0), .int a1] S (F_X7_see S a1) := by
  refine CT.of RX7 (by decide) rfl hJ (Nat.le_of_ble_eq_true rfl) rfl ?_
  intro p e s m below meth c cx
  unfold F_X7_see
  refine G_iload_n (q := 1) cx dX7_see_0 rfl rfl ?_
  refine G_bipush (q := 3) (v := (-100 : Int32)) cx dX7_see_1 rfl (by decide) ?_
  refine G_icmp_ne (q := 6) (t := 19) cx dX7_see_3 rfl (by decide) (fun c1 => ?_) (fun c1 => ?_)
  · refine G_iload_n (q := 20) cx dX7_see_19 rfl rfl ?_
    refine G_bipush (q := 22) (v := (-99 : Int32)) cx dX7_see_20 rfl (by decide) ?_
    refine G_bipush (q := 24) (v := (99 : Int32)) cx dX7_see_22 rfl (by decide) ?_
    refine G_callS (q := 27) (d' := 0) (As := [.int a1, .int (-99 : Int32), .int (99 : Int32)]) (rest := []) (stk := fun r2 => [.int r2]) cx dX7_see_24 rfl ml_RX7_74 rfl rfl (Nat.le_of_ble_eq_true rfl) (Nat.le_of_ble_eq_true rfl) (Nat.le_of_ble_eq_true rfl) (c_X7_isWithin l hJ _ a1 (-99 : Int32) (99 : Int32)) (fun _ => rfl) (fun r2 S3 h4 o5 => ?_)
    refine G_if_eq (q := 30) (t := 45) cx dX7_see_27 rfl (by decide) (fun c6 => ?_) (fun c6 => ?_)
    · refine G_bipush (q := 47) (v := (-2 : Int32)) cx dX7_see_45 rfl (by decide) ?_
      exact G_iret cx rfl dX7_see_47 trivial
    refine G_aload_n (q := 31) cx dX7_see_30 rfl rfl ?_
    refine G_getr (q := 34) (g := 5) (i' := 0) cx dX7_see_31 rfl cf_7 fl_RX7_23 (Nat.le_of_ble_eq_true rfl) rfl rfl (Nat.le_of_ble_eq_true rfl) ?_
    refine G_getr (q := 37) (g := 4) (i' := 1) cx dX7_see_34 rfl cf_5 fl_RX7_232 (Nat.le_of_ble_eq_true rfl) rfl rfl (Nat.le_of_ble_eq_true rfl) ?_
    refine G_iconst (q := 38) (v := (0 : Int32)) cx dX7_see_37 rfl (by decide) ?_
    refine G_iload_n (q := 39) cx dX7_see_38 rfl rfl ?_
    refine G_callV (q := 42) (d' := 0) (f := 4) (i := 1) (As := [.int (0 : Int32), .int a1]) (rest := []) (stk := fun r7 => [.int r7]) cx dX7_see_39 rfl cf_4 (Nat.le_of_ble_eq_true rfl) ml_RX7_235 rfl rfl (Nat.le_of_ble_eq_true rfl) (Nat.le_of_ble_eq_true rfl) (Nat.le_of_ble_eq_true rfl) (c_X4_add l hJ _ 1 (0 : Int32) a1 (Nat.le_of_ble_eq_true rfl)) (fun _ => rfl) (fun r7 S8 h9 o10 => ?_)
    refine G_goto (t := 47) cx dX7_see_42 (by decide) ?_
    exact G_iret cx rfl dX7_see_47 trivial
  refine G_aload_n (q := 7) cx dX7_see_6 rfl rfl ?_
  refine G_getr (q := 10) (g := 5) (i' := 0) cx dX7_see_7 rfl cf_7 fl_RX7_23 (Nat.le_of_ble_eq_true rfl) rfl rfl (Nat.le_of_ble_eq_true rfl) ?_
  refine G_getr (q := 13) (g := 4) (i' := 1) cx dX7_see_10 rfl cf_5 fl_RX7_232 (Nat.le_of_ble_eq_true rfl) rfl rfl (Nat.le_of_ble_eq_true rfl) ?_
  refine G_iconst (q := 14) (v := (0 : Int32)) cx dX7_see_13 rfl (by decide) ?_
  refine G_puti (q := 17) cx dX7_see_14 rfl cf_4 fl_RX7_222 (Nat.le_of_ble_eq_true rfl) rfl rfl rfl rfl rfl (Nat.le_of_ble_eq_true rfl) ?_
  refine G_iconst (q := 18) (v := (0 : Int32)) cx dX7_see_17 rfl (by decide) ?_
  exact G_iret cx rfl dX7_see_18 trivial
def L_X7_wouldBeAsSeen_16 (a1 : Nat) (K_5 : Int32 → St → Option (Int32 × St)) : Nat → Int32 → St → Option (Int32 × St)
  | 0, _, _ => none
  | n + 1, x2_5, S_5 =>
    if (gI S_5 4 1 2) ≤ x2_5 then (K_5 x2_5 S_5)
    else ((gR S_5 5 0 8).elim none
    (fun p7 => bnd (F_X2_circles S_5 2 a1 p7 (1 : Int32)) (fun r10 S11 =>
    if 0 ≤ x2_5 ∧ x2_5.toNatClampNeg < 5 then (if ((gI S11 2 2 1) - (gI S_5 2 2 1)) = (gI S11 15 1 x2_5.toNatClampNeg) then (L_X7_wouldBeAsSeen_16 a1 K_5 n (x2_5 + 1) S11)
    else (some ((0 : Int32), S11)))
    else none)))
def F_X7_wouldBeAsSeen (S : St) (a1 : Nat) : Option (Int32 × St) :=
  bnd (F_X2_copyFrom S 2 0) (fun r1 S2 =>
  L_X7_wouldBeAsSeen_16 a1 
  (fun y2_5 T_5 => some ((1 : Int32), T_5)) 1000 (0 : Int32) S2)
set_option maxRecDepth 10000 in
theorem c_X7_wouldBeAsSeen (l : Launch) {D : va_G} {cy : Nat → ClassId} {ad : Nat → Nat → Nat} {k : Nat} (hJ : wJ ad (nX k)) (S : St) (a1 : Nat) (h_a1 : a1 < 12) : CT l yX7_wouldBeAsSeen cX7_wouldBeAsSeen 4 (some .boolean) 5 D cy ad (nX k) toI okZ [.ref (ad 7 0), .ref (ad 3 a1)] S (F_X7_wouldBeAsSeen S a1) := by
  refine CT.of RX7 (by decide) rfl hJ (Nat.le_of_ble_eq_true rfl) rfl ?_
  intro p e s m below meth c cx
  unfold F_X7_wouldBeAsSeen
  refine G_aload_n (q := 1) cx dX7_wouldBeAsSeen_0 rfl rfl ?_
  refine G_getr (q := 4) (g := 2) (i' := 2) cx dX7_wouldBeAsSeen_1 rfl cf_7 fl_RX7_33 (Nat.le_of_ble_eq_true rfl) rfl rfl (Nat.le_of_ble_eq_true rfl) ?_
  refine G_aload_n (q := 5) cx dX7_wouldBeAsSeen_4 rfl rfl ?_
  refine G_getr (q := 8) (g := 5) (i' := 0) cx dX7_wouldBeAsSeen_5 rfl cf_7 fl_RX7_23 (Nat.le_of_ble_eq_true rfl) rfl rfl (Nat.le_of_ble_eq_true rfl) ?_
  refine G_getr (q := 11) (g := 2) (i' := 0) cx dX7_wouldBeAsSeen_8 rfl cf_5 fl_RX7_112 (Nat.le_of_ble_eq_true rfl) rfl rfl (Nat.le_of_ble_eq_true rfl) ?_
  refine G_callV (q := 14) (d' := 0) (f := 2) (i := 2) (As := [.ref (ad 2 0)]) (rest := []) (stk := fun _ => []) cx dX7_wouldBeAsSeen_11 rfl cf_2 (Nat.le_of_ble_eq_true rfl) ml_RX7_165 rfl rfl (Nat.le_of_ble_eq_true rfl) (Nat.le_of_ble_eq_true rfl) (Nat.le_of_ble_eq_true rfl) (c_X2_copyFrom l hJ _ 2 0 (Nat.le_of_ble_eq_true rfl) (Nat.le_of_ble_eq_true rfl)) (fun _ => rfl) (fun r1 S2 h3 o4 => ?_)
  refine G_iconst (q := 15) (v := (0 : Int32)) cx dX7_wouldBeAsSeen_14 rfl (by decide) ?_
  refine G_istore_n (q := 16) (ls' := [(2, .int (0 : Int32)), (0, .ref (ad 7 0)), (1, .ref (ad 3 a1))]) cx dX7_wouldBeAsSeen_15 rfl rfl (Nat.le_of_ble_eq_true rfl) rfl ?_
  have lp_5 : ∀ (K_5 : Int32 → St → Option (Int32 × St)) (hK_5 : ∀ (y2_5 : Int32) (T_5 : St), TG p l e 5 s m ([.ref (ad 7 0), .ref (ad 3 a1)] : List Value).toArray below meth c D cy ad (nX k) toI okZ T_5 86 [(2, .int y2_5), (0, .ref (ad 7 0)), (1, .ref (ad 3 a1))] [] (K_5 y2_5 T_5)), ∀ (n_5 : Nat) (x2_5 : Int32) (S_5 : St), TG p l e 5 s m ([.ref (ad 7 0), .ref (ad 3 a1)] : List Value).toArray below meth c D cy ad (nX k) toI okZ S_5 16 [(2, .int x2_5), (0, .ref (ad 7 0)), (1, .ref (ad 3 a1))] [] (L_X7_wouldBeAsSeen_16 a1 K_5 n_5 x2_5 S_5) := by
    intro K_5 hK_5 n_5
    induction n_5 with
    | zero => intros; exact G_none
    | succ n_5 ih_5 =>
      intro x2_5 S_5
      rw [L_X7_wouldBeAsSeen_16.eq_2]
      refine G_iload_n (q := 17) cx dX7_wouldBeAsSeen_16 rfl rfl ?_
      refine G_aload_n (q := 18) cx dX7_wouldBeAsSeen_17 rfl rfl ?_
      refine G_getr (q := 21) (g := 5) (i' := 0) cx dX7_wouldBeAsSeen_18 rfl cf_7 fl_RX7_23 (Nat.le_of_ble_eq_true rfl) rfl rfl (Nat.le_of_ble_eq_true rfl) ?_
      refine G_getr (q := 24) (g := 4) (i' := 1) cx dX7_wouldBeAsSeen_21 rfl cf_5 fl_RX7_232 (Nat.le_of_ble_eq_true rfl) rfl rfl (Nat.le_of_ble_eq_true rfl) ?_
      refine G_geti (q := 27) cx dX7_wouldBeAsSeen_24 rfl cf_4 fl_RX7_222 (Nat.le_of_ble_eq_true rfl) rfl (Nat.le_of_ble_eq_true rfl) ?_
      refine G_icmp_ge (q := 30) (t := 86) cx dX7_wouldBeAsSeen_27 rfl (by decide) (fun c6 => ?_) (fun c6 => ?_)
      · exact G_loc [0, 1, 2] rfl (hK_5 x2_5 S_5)
      refine G_aload_n (q := 31) cx dX7_wouldBeAsSeen_30 rfl rfl ?_
      refine G_getr (q := 34) (g := 2) (i' := 2) cx dX7_wouldBeAsSeen_31 rfl cf_7 fl_RX7_33 (Nat.le_of_ble_eq_true rfl) rfl rfl (Nat.le_of_ble_eq_true rfl) ?_
      refine G_geti (q := 37) cx dX7_wouldBeAsSeen_34 rfl cf_2 fl_RX7_115 (Nat.le_of_ble_eq_true rfl) rfl (Nat.le_of_ble_eq_true rfl) ?_
      refine G_istore_n (q := 38) (ls' := [(3, .int (gI S_5 2 2 1)), (2, .int x2_5), (0, .ref (ad 7 0)), (1, .ref (ad 3 a1))]) cx dX7_wouldBeAsSeen_37 rfl rfl (Nat.le_of_ble_eq_true rfl) rfl ?_
      refine G_aload_n (q := 39) cx dX7_wouldBeAsSeen_38 rfl rfl ?_
      refine G_getr (q := 42) (g := 2) (i' := 2) cx dX7_wouldBeAsSeen_39 rfl cf_7 fl_RX7_33 (Nat.le_of_ble_eq_true rfl) rfl rfl (Nat.le_of_ble_eq_true rfl) ?_
      refine G_aload_n (q := 43) cx dX7_wouldBeAsSeen_42 rfl rfl ?_
      refine G_aload_n (q := 44) cx dX7_wouldBeAsSeen_43 rfl rfl ?_
      refine G_getr (q := 47) (g := 5) (i' := 0) cx dX7_wouldBeAsSeen_44 rfl cf_7 fl_RX7_23 (Nat.le_of_ble_eq_true rfl) rfl rfl (Nat.le_of_ble_eq_true rfl) ?_
      refine G_geta (q := 50) cx dX7_wouldBeAsSeen_47 rfl cf_5 fl_RX7_109 (Nat.le_of_ble_eq_true rfl) rfl (Nat.le_of_ble_eq_true rfl) (fun e8 => ?_) (fun p7 e9 h_p7 => ?_)
      · exact G_none
      refine G_iconst (q := 51) (v := (1 : Int32)) cx dX7_wouldBeAsSeen_50 rfl (by decide) ?_
      refine G_callV (q := 54) (d' := 4) (f := 2) (i := 2) (As := [.ref (ad 3 a1), .ref (ad 0 p7), .int (1 : Int32)]) (rest := []) (stk := fun _ => []) cx dX7_wouldBeAsSeen_51 rfl cf_2 (Nat.le_of_ble_eq_true rfl) ml_RX7_158 rfl rfl (Nat.le_of_ble_eq_true rfl) (Nat.le_of_ble_eq_true rfl) (Nat.le_of_ble_eq_true rfl) (c_X2_circles l hJ _ 2 a1 p7 (1 : Int32) (Nat.le_of_ble_eq_true rfl) h_a1 h_p7) (fun _ => rfl) (fun r10 S11 h12 o13 => ?_)
      refine G_aload_n (q := 55) cx dX7_wouldBeAsSeen_54 rfl rfl ?_
      refine G_getr (q := 58) (g := 2) (i' := 2) cx dX7_wouldBeAsSeen_55 rfl cf_7 fl_RX7_33 (Nat.le_of_ble_eq_true rfl) rfl rfl (Nat.le_of_ble_eq_true rfl) ?_
      refine G_geti (q := 61) cx dX7_wouldBeAsSeen_58 rfl cf_2 fl_RX7_115 (Nat.le_of_ble_eq_true rfl) rfl (Nat.le_of_ble_eq_true rfl) ?_
      refine G_iload_n (q := 62) cx dX7_wouldBeAsSeen_61 rfl rfl ?_
      refine G_isub (q := 63) cx dX7_wouldBeAsSeen_62 rfl ?_
      refine G_aload_n (q := 64) cx dX7_wouldBeAsSeen_63 rfl rfl ?_
      refine G_getr (q := 67) (g := 5) (i' := 0) cx dX7_wouldBeAsSeen_64 rfl cf_7 fl_RX7_23 (Nat.le_of_ble_eq_true rfl) rfl rfl (Nat.le_of_ble_eq_true rfl) ?_
      refine G_getr (q := 70) (g := 4) (i' := 1) cx dX7_wouldBeAsSeen_67 rfl cf_5 fl_RX7_232 (Nat.le_of_ble_eq_true rfl) rfl rfl (Nat.le_of_ble_eq_true rfl) ?_
      refine G_getr (q := 73) (g := 15) (i' := 1) cx dX7_wouldBeAsSeen_70 rfl cf_4 fl_RX7_229 (Nat.le_of_ble_eq_true rfl) rfl rfl (Nat.le_of_ble_eq_true rfl) ?_
      refine G_iload_n (q := 74) cx dX7_wouldBeAsSeen_73 rfl rfl ?_
      refine G_iald (q := 75) cx dX7_wouldBeAsSeen_74 rfl (by decide) rfl rfl (Nat.le_of_ble_eq_true rfl) (fun g14 g15 => ?_)
      refine G_icmp_eq (q := 78) (t := 80) cx dX7_wouldBeAsSeen_75 rfl (by decide) (fun c16 => ?_) (fun c16 => ?_)
      · refine G_iinc (q := 83) (j := 1) (v := x2_5 + 1) (ls' := [(2, .int (x2_5 + 1)), (3, .int (gI S_5 2 2 1)), (0, .ref (ad 7 0)), (1, .ref (ad 3 a1))]) cx dX7_wouldBeAsSeen_80 rfl rfl rfl (Nat.le_of_ble_eq_true rfl) rfl ?_
        refine G_goto (t := 16) cx dX7_wouldBeAsSeen_83 (by decide) ?_
        exact G_loc [0, 2, 3] rfl (ih_5 (x2_5 + 1) S11)
      · refine G_iconst (q := 79) (v := (0 : Int32)) cx dX7_wouldBeAsSeen_78 rfl (by decide) ?_
        exact G_zret (ty := .boolean) cx rfl dX7_wouldBeAsSeen_79 rfl rfl
  refine G_loc [0, 1, 2] rfl (lp_5 _ (fun y2_5 T_5 => ?_) 1000 (0 : Int32) S2)
  refine G_iconst (q := 87) (v := (1 : Int32)) cx dX7_wouldBeAsSeen_86 rfl (by decide) ?_
  exact G_zret (ty := .boolean) cx rfl dX7_wouldBeAsSeen_87 rfl rfl
def L_X7_who_4 (K_1 : Int32 → Int32 → St → Option (Int32 × St)) : Nat → Int32 → Int32 → St → Option (Int32 × St)
  | 0, _, _, _ => none
  | n + 1, x1_1, x2_1, S_1 =>
    if (gI S_1 5 0 5) ≤ x2_1 then (K_1 x1_1 x2_1 S_1)
    else (if 0 ≤ x2_1 ∧ x2_1.toNatClampNeg < 6 then (bnd (F_X7_wouldBeAsSeen S_1 (6 * 0 + x2_1.toNatClampNeg)) (fun r5 S6 =>
    if r5 = 0 then (L_X7_who_4 K_1 n x1_1 (x2_1 + 1) S6)
    else (L_X7_who_4 K_1 n (x1_1 ||| ((1 : Int32) <<< (x2_1 &&& 31))) (x2_1 + 1) S6)))
    else none)
def F_X7_who (S : St) : Option (Int32 × St) :=
  L_X7_who_4 
  (fun y1_1 y2_1 T_1 => some (y1_1, T_1)) 1000 (0 : Int32) (0 : Int32) S
set_option maxRecDepth 10000 in
theorem c_X7_who (l : Launch) {D : va_G} {cy : Nat → ClassId} {ad : Nat → Nat → Nat} {k : Nat} (hJ : wJ ad (nX k)) (S : St) : CT l yX7_who cX7_who 3 (some .int) 6 D cy ad (nX k) toI okT [.ref (ad 7 0)] S (F_X7_who S) := by
  refine CT.of RX7 (by decide) rfl hJ (Nat.le_of_ble_eq_true rfl) rfl ?_
  intro p e s m below meth c cx
  unfold F_X7_who
  refine G_iconst (q := 1) (v := (0 : Int32)) cx dX7_who_0 rfl (by decide) ?_
  refine G_istore_n (q := 2) (ls' := [(1, .int (0 : Int32)), (0, .ref (ad 7 0))]) cx dX7_who_1 rfl rfl (Nat.le_of_ble_eq_true rfl) rfl ?_
  refine G_iconst (q := 3) (v := (0 : Int32)) cx dX7_who_2 rfl (by decide) ?_
  refine G_istore_n (q := 4) (ls' := [(2, .int (0 : Int32)), (1, .int (0 : Int32)), (0, .ref (ad 7 0))]) cx dX7_who_3 rfl rfl (Nat.le_of_ble_eq_true rfl) rfl ?_
  have lp_1 : ∀ (K_1 : Int32 → Int32 → St → Option (Int32 × St)) (hK_1 : ∀ (y1_1 : Int32) (y2_1 : Int32) (T_1 : St), TG p l e 6 s m ([.ref (ad 7 0)] : List Value).toArray below meth c D cy ad (nX k) toI okT T_1 43 [(1, .int y1_1), (2, .int y2_1), (0, .ref (ad 7 0))] [] (K_1 y1_1 y2_1 T_1)), ∀ (n_1 : Nat) (x1_1 : Int32) (x2_1 : Int32) (S_1 : St), TG p l e 6 s m ([.ref (ad 7 0)] : List Value).toArray below meth c D cy ad (nX k) toI okT S_1 4 [(1, .int x1_1), (2, .int x2_1), (0, .ref (ad 7 0))] [] (L_X7_who_4 K_1 n_1 x1_1 x2_1 S_1) := by
    intro K_1 hK_1 n_1
    induction n_1 with
    | zero => intros; exact G_none
    | succ n_1 ih_1 =>
      intro x1_1 x2_1 S_1
      rw [L_X7_who_4.eq_2]
      refine G_iload_n (q := 5) cx dX7_who_4 rfl rfl ?_
      refine G_aload_n (q := 6) cx dX7_who_5 rfl rfl ?_
      refine G_getr (q := 9) (g := 5) (i' := 0) cx dX7_who_6 rfl cf_7 fl_RX7_23 (Nat.le_of_ble_eq_true rfl) rfl rfl (Nat.le_of_ble_eq_true rfl) ?_
      refine G_geti (q := 12) cx dX7_who_9 rfl cf_5 fl_RX7_81 (Nat.le_of_ble_eq_true rfl) rfl (Nat.le_of_ble_eq_true rfl) ?_
      refine G_icmp_ge (q := 15) (t := 43) cx dX7_who_12 rfl (by decide) (fun c2 => ?_) (fun c2 => ?_)
      · exact G_loc [0, 1, 2] rfl (hK_1 x1_1 x2_1 S_1)
      refine G_aload_n (q := 16) cx dX7_who_15 rfl rfl ?_
      refine G_aload_n (q := 17) cx dX7_who_16 rfl rfl ?_
      refine G_getr (q := 20) (g := 5) (i' := 0) cx dX7_who_17 rfl cf_7 fl_RX7_23 (Nat.le_of_ble_eq_true rfl) rfl rfl (Nat.le_of_ble_eq_true rfl) ?_
      refine G_getr (q := 23) (g := 12) (i' := 0) cx dX7_who_20 rfl cf_5 fl_RX7_84 (Nat.le_of_ble_eq_true rfl) rfl rfl (Nat.le_of_ble_eq_true rfl) ?_
      refine G_iload_n (q := 24) cx dX7_who_23 rfl rfl ?_
      refine G_aaldL (q := 25) cx dX7_who_24 rfl (Nat.le_of_ble_eq_true rfl) (fun g3 g4 => ?_)
      refine G_callV (q := 28) (d' := 5) (f := 7) (i := 0) (As := [.ref (ad 3 (6 * 0 + x2_1.toNatClampNeg))]) (rest := []) (stk := fun r5 => [.int r5]) cx dX7_who_25 rfl cf_7 (Nat.le_of_ble_eq_true rfl) ml_RX7_238 rfl rfl (Nat.le_of_ble_eq_true rfl) (Nat.le_of_ble_eq_true rfl) (Nat.le_of_ble_eq_true rfl) (c_X7_wouldBeAsSeen l hJ _ (6 * 0 + x2_1.toNatClampNeg) (by show 6 * 0 + x2_1.toNatClampNeg < 12; omega)) (fun _ => rfl) (fun r5 S6 h7 o8 => ?_)
      refine G_if_eq (q := 31) (t := 37) cx dX7_who_28 rfl (by decide) (fun c9 => ?_) (fun c9 => ?_)
      · refine G_iinc (q := 40) (j := 1) (v := x2_1 + 1) (ls' := [(2, .int (x2_1 + 1)), (1, .int x1_1), (0, .ref (ad 7 0))]) cx dX7_who_37 rfl rfl rfl (Nat.le_of_ble_eq_true rfl) rfl ?_
        refine G_goto (t := 4) cx dX7_who_40 (by decide) ?_
        exact G_loc [1, 0, 2] rfl (ih_1 x1_1 (x2_1 + 1) S6)
      refine G_iload_n (q := 32) cx dX7_who_31 rfl rfl ?_
      refine G_iconst (q := 33) (v := (1 : Int32)) cx dX7_who_32 rfl (by decide) ?_
      refine G_iload_n (q := 34) cx dX7_who_33 rfl rfl ?_
      refine G_ishl (q := 35) cx dX7_who_34 rfl ?_
      refine G_ior (q := 36) cx dX7_who_35 rfl ?_
      refine G_istore_n (q := 37) (ls' := [(1, .int (x1_1 ||| ((1 : Int32) <<< (x2_1 &&& 31)))), (2, .int x2_1), (0, .ref (ad 7 0))]) cx dX7_who_36 rfl rfl (Nat.le_of_ble_eq_true rfl) rfl ?_
      refine G_iinc (q := 40) (j := 1) (v := x2_1 + 1) (ls' := [(2, .int (x2_1 + 1)), (1, .int (x1_1 ||| ((1 : Int32) <<< (x2_1 &&& 31)))), (0, .ref (ad 7 0))]) cx dX7_who_37 rfl rfl rfl (Nat.le_of_ble_eq_true rfl) rfl ?_
      refine G_goto (t := 4) cx dX7_who_40 (by decide) ?_
      exact G_loc [1, 0, 2] rfl (ih_1 (x1_1 ||| ((1 : Int32) <<< (x2_1 &&& 31))) (x2_1 + 1) S6)
  refine G_loc [1, 0, 2] rfl (lp_1 _ (fun y1_1 y2_1 T_1 => ?_) 1000 (0 : Int32) (0 : Int32) S)
  refine G_iload_n (q := 44) cx dX7_who_43 rfl rfl ?_
  exact G_iret cx rfl dX7_who_44 trivial
def L_X7_partOfFraction_30 (a0 : Int32) (a1 : Int32) (K_8 : Int32 → St → Option (Int64 × St)) : Nat → Int32 → St → Option (Int64 × St)
  | 0, _, _ => none
  | n + 1, x4_8, S_8 =>
    if x4_8 ≤ (1 : Int32) then (K_8 x4_8 S_8)
    else (if x4_8 = 0 then none else (if (a0 - a0 / x4_8 * x4_8) = 0 then (if x4_8 = 0 then none else (if (a1 - a1 / x4_8 * x4_8) = 0 then (if x4_8 = 0 then none else (some ((a1 / x4_8).toInt64, S_8)))
    else (L_X7_partOfFraction_30 a0 a1 K_8 n (x4_8 + (-1)) S_8)))
    else (L_X7_partOfFraction_30 a0 a1 K_8 n (x4_8 + (-1)) S_8)))
def L_X7_partOfFraction_30b (a0 : Int32) (a1 : Int32) (K_15 : Int32 → St → Option (Int64 × St)) : Nat → Int32 → St → Option (Int64 × St)
  | 0, _, _ => none
  | n + 1, x4_15, S_15 =>
    if x4_15 ≤ (1 : Int32) then (K_15 x4_15 S_15)
    else (if x4_15 = 0 then none else (if (a0 - a0 / x4_15 * x4_15) = 0 then (if x4_15 = 0 then none else (if (a1 - a1 / x4_15 * x4_15) = 0 then (if x4_15 = 0 then none else (some ((a0 / x4_15).toInt64, S_15)))
    else (L_X7_partOfFraction_30b a0 a1 K_15 n (x4_15 + (-1)) S_15)))
    else (L_X7_partOfFraction_30b a0 a1 K_15 n (x4_15 + (-1)) S_15)))
def F_X7_partOfFraction (S : St) (a0 : Int32) (a1 : Int32) (a2 : Int32) : Option (Int64 × St) :=
  if a1 ≤ 0 then (some ((-9223372036854775808 : Int64), S))
  else (bnd (F_X7_isWithin S a2 (0 : Int32) (1 : Int32)) (fun r2 S3 =>
  if r2 = 0 then (some ((-9223372036854775808 : Int64), S3))
  else (if a2 = 0 then (L_X7_partOfFraction_30b a0 a1 
  (fun y4_15 T_15 => some (a0.toInt64, T_15)) 1000 a1 S3)
  else (L_X7_partOfFraction_30 a0 a1 
  (fun y4_8 T_8 => some (a1.toInt64, T_8)) 1000 a1 S3))))
set_option maxRecDepth 10000 in
theorem c_X7_partOfFraction (l : Launch) {D : va_G} {cy : Nat → ClassId} {ad : Nat → Nat → Nat} {k : Nat} (hJ : wJ ad (nX k)) (S : St) (a0 : Int32) (a1 : Int32) (a2 : Int32) : CT l yX7_partOfFraction cX7_partOfFraction 5 (some .long) 1 D cy ad (nX k) toJ okT [.int a0, .int a1, .int a2] S (F_X7_partOfFraction S a0 a1 a2) := by
  refine CT.of RX7 (by decide) rfl hJ (Nat.le_of_ble_eq_true rfl) rfl ?_
  intro p e s m below meth c cx
  unfold F_X7_partOfFraction
  refine G_iload_n (q := 1) cx dX7_partOfFraction_0 rfl rfl ?_
  refine G_if_le (q := 4) (t := 13) cx dX7_partOfFraction_1 rfl (by decide) (fun c1 => ?_) (fun c1 => ?_)
  · refine G_ldc2_w (q := 16) (v := (-9223372036854775808 : Int64)) cx dX7_partOfFraction_13 rfl (inG (inT 650 (by decide +kernel)) rfl) ?_
    exact G_lret cx rfl dX7_partOfFraction_16 trivial
  refine G_iload_n (q := 5) cx dX7_partOfFraction_4 rfl rfl ?_
  refine G_iconst (q := 6) (v := (0 : Int32)) cx dX7_partOfFraction_5 rfl (by decide) ?_
  refine G_iconst (q := 7) (v := (1 : Int32)) cx dX7_partOfFraction_6 rfl (by decide) ?_
  refine G_callS (q := 10) (d' := 0) (As := [.int a2, .int (0 : Int32), .int (1 : Int32)]) (rest := []) (stk := fun r2 => [.int r2]) cx dX7_partOfFraction_7 rfl ml_RX7_74 rfl rfl (Nat.le_of_ble_eq_true rfl) (Nat.le_of_ble_eq_true rfl) (Nat.le_of_ble_eq_true rfl) (c_X7_isWithin l hJ _ a2 (0 : Int32) (1 : Int32)) (fun _ => rfl) (fun r2 S3 h4 o5 => ?_)
  refine G_if_ne (q := 13) (t := 17) cx dX7_partOfFraction_10 rfl (by decide) (fun c6 => ?_) (fun c6 => ?_)
  · refine G_iload_n (q := 18) cx dX7_partOfFraction_17 rfl rfl ?_
    refine G_if_ne (q := 21) (t := 25) cx dX7_partOfFraction_18 rfl (by decide) (fun c7 => ?_) (fun c7 => ?_)
    · refine G_iload_n (q := 26) cx dX7_partOfFraction_25 rfl rfl ?_
      refine G_istore_n (q := 27) (ls' := [(3, .int a1), (0, .int a0), (1, .int a1), (2, .int a2)]) cx dX7_partOfFraction_26 rfl rfl (Nat.le_of_ble_eq_true rfl) rfl ?_
      refine G_iload_n (q := 28) cx dX7_partOfFraction_27 rfl rfl ?_
      refine G_istore (q := 30) (ls' := [(4, .int a1), (3, .int a1), (0, .int a0), (1, .int a1), (2, .int a2)]) cx dX7_partOfFraction_28 rfl (Nat.le_of_ble_eq_true rfl) rfl ?_
      have lp_8 : ∀ (K_8 : Int32 → St → Option (Int64 × St)) (hK_8 : ∀ (y4_8 : Int32) (T_8 : St), TG p l e 1 s m ([.int a0, .int a1, .int a2] : List Value).toArray below meth c D cy ad (nX k) toJ okT T_8 62 [(4, .int y4_8), (3, .int a1), (0, .int a0), (1, .int a1), (2, .int a2)] [] (K_8 y4_8 T_8)), ∀ (n_8 : Nat) (x4_8 : Int32) (S_8 : St), TG p l e 1 s m ([.int a0, .int a1, .int a2] : List Value).toArray below meth c D cy ad (nX k) toJ okT S_8 30 [(4, .int x4_8), (3, .int a1), (0, .int a0), (1, .int a1), (2, .int a2)] [] (L_X7_partOfFraction_30 a0 a1 K_8 n_8 x4_8 S_8) := by
        intro K_8 hK_8 n_8
        induction n_8 with
        | zero => intros; exact G_none
        | succ n_8 ih_8 =>
          intro x4_8 S_8
          rw [L_X7_partOfFraction_30.eq_2]
          refine G_iload (q := 32) cx dX7_partOfFraction_30 rfl rfl ?_
          refine G_iconst (q := 33) (v := (1 : Int32)) cx dX7_partOfFraction_32 rfl (by decide) ?_
          refine G_icmp_le (q := 36) (t := 62) cx dX7_partOfFraction_33 rfl (by decide) (fun c9 => ?_) (fun c9 => ?_)
          · exact G_loc [0, 1, 2, 3, 4] rfl (hK_8 x4_8 S_8)
          refine G_iload_n (q := 37) cx dX7_partOfFraction_36 rfl rfl ?_
          refine G_iload (q := 39) cx dX7_partOfFraction_37 rfl rfl ?_
          refine G_case (fun _ => G_none) (fun g10 => ?_)
          refine G_irem (q := 40) cx dX7_partOfFraction_39 rfl g10 ?_
          refine G_if_ne (q := 43) (t := 56) cx dX7_partOfFraction_40 rfl (by decide) (fun c11 => ?_) (fun c11 => ?_)
          · refine G_iinc (q := 59) (j := 0) (v := x4_8 + (-1)) (ls' := [(4, .int (x4_8 + (-1))), (3, .int a1), (0, .int a0), (1, .int a1), (2, .int a2)]) cx dX7_partOfFraction_56 rfl rfl rfl (Nat.le_of_ble_eq_true rfl) rfl ?_
            refine G_goto (t := 30) cx dX7_partOfFraction_59 (by decide) ?_
            exact G_loc [0, 1, 2, 3, 4] rfl (ih_8 (x4_8 + (-1)) S_8)
          refine G_iload_n (q := 44) cx dX7_partOfFraction_43 rfl rfl ?_
          refine G_iload (q := 46) cx dX7_partOfFraction_44 rfl rfl ?_
          refine G_case (fun _ => G_none) (fun g12 => ?_)
          refine G_irem (q := 47) cx dX7_partOfFraction_46 rfl g12 ?_
          refine G_if_ne (q := 50) (t := 56) cx dX7_partOfFraction_47 rfl (by decide) (fun c13 => ?_) (fun c13 => ?_)
          · refine G_iinc (q := 59) (j := 0) (v := x4_8 + (-1)) (ls' := [(4, .int (x4_8 + (-1))), (3, .int a1), (0, .int a0), (1, .int a1), (2, .int a2)]) cx dX7_partOfFraction_56 rfl rfl rfl (Nat.le_of_ble_eq_true rfl) rfl ?_
            refine G_goto (t := 30) cx dX7_partOfFraction_59 (by decide) ?_
            exact G_loc [0, 1, 2, 3, 4] rfl (ih_8 (x4_8 + (-1)) S_8)
          refine G_iload_n (q := 51) cx dX7_partOfFraction_50 rfl rfl ?_
          refine G_iload (q := 53) cx dX7_partOfFraction_51 rfl rfl ?_
          refine G_case (fun _ => G_none) (fun g14 => ?_)
          refine G_idiv (q := 54) cx dX7_partOfFraction_53 rfl g14 ?_
          refine G_i2l (q := 55) cx dX7_partOfFraction_54 rfl ?_
          exact G_lret cx rfl dX7_partOfFraction_55 trivial
      refine G_loc [0, 1, 2, 3, 4] rfl (lp_8 _ (fun y4_8 T_8 => ?_) 1000 a1 S3)
      refine G_iload_n (q := 63) cx dX7_partOfFraction_62 rfl rfl ?_
      refine G_i2l (q := 64) cx dX7_partOfFraction_63 rfl ?_
      exact G_lret cx rfl dX7_partOfFraction_64 trivial
    refine G_iload_n (q := 22) cx dX7_partOfFraction_21 rfl rfl ?_
    refine G_goto (t := 26) cx dX7_partOfFraction_22 (by decide) ?_
    refine G_istore_n (q := 27) (ls' := [(3, .int a0), (0, .int a0), (1, .int a1), (2, .int a2)]) cx dX7_partOfFraction_26 rfl rfl (Nat.le_of_ble_eq_true rfl) rfl ?_
    refine G_iload_n (q := 28) cx dX7_partOfFraction_27 rfl rfl ?_
    refine G_istore (q := 30) (ls' := [(4, .int a1), (3, .int a0), (0, .int a0), (1, .int a1), (2, .int a2)]) cx dX7_partOfFraction_28 rfl (Nat.le_of_ble_eq_true rfl) rfl ?_
    have lp_15 : ∀ (K_15 : Int32 → St → Option (Int64 × St)) (hK_15 : ∀ (y4_15 : Int32) (T_15 : St), TG p l e 1 s m ([.int a0, .int a1, .int a2] : List Value).toArray below meth c D cy ad (nX k) toJ okT T_15 62 [(4, .int y4_15), (3, .int a0), (0, .int a0), (1, .int a1), (2, .int a2)] [] (K_15 y4_15 T_15)), ∀ (n_15 : Nat) (x4_15 : Int32) (S_15 : St), TG p l e 1 s m ([.int a0, .int a1, .int a2] : List Value).toArray below meth c D cy ad (nX k) toJ okT S_15 30 [(4, .int x4_15), (3, .int a0), (0, .int a0), (1, .int a1), (2, .int a2)] [] (L_X7_partOfFraction_30b a0 a1 K_15 n_15 x4_15 S_15) := by
      intro K_15 hK_15 n_15
      induction n_15 with
      | zero => intros; exact G_none
      | succ n_15 ih_15 =>
        intro x4_15 S_15
        rw [L_X7_partOfFraction_30b.eq_2]
        refine G_iload (q := 32) cx dX7_partOfFraction_30 rfl rfl ?_
        refine G_iconst (q := 33) (v := (1 : Int32)) cx dX7_partOfFraction_32 rfl (by decide) ?_
        refine G_icmp_le (q := 36) (t := 62) cx dX7_partOfFraction_33 rfl (by decide) (fun c16 => ?_) (fun c16 => ?_)
        · exact G_loc [0, 1, 2, 3, 4] rfl (hK_15 x4_15 S_15)
        refine G_iload_n (q := 37) cx dX7_partOfFraction_36 rfl rfl ?_
        refine G_iload (q := 39) cx dX7_partOfFraction_37 rfl rfl ?_
        refine G_case (fun _ => G_none) (fun g17 => ?_)
        refine G_irem (q := 40) cx dX7_partOfFraction_39 rfl g17 ?_
        refine G_if_ne (q := 43) (t := 56) cx dX7_partOfFraction_40 rfl (by decide) (fun c18 => ?_) (fun c18 => ?_)
        · refine G_iinc (q := 59) (j := 0) (v := x4_15 + (-1)) (ls' := [(4, .int (x4_15 + (-1))), (3, .int a0), (0, .int a0), (1, .int a1), (2, .int a2)]) cx dX7_partOfFraction_56 rfl rfl rfl (Nat.le_of_ble_eq_true rfl) rfl ?_
          refine G_goto (t := 30) cx dX7_partOfFraction_59 (by decide) ?_
          exact G_loc [0, 1, 2, 3, 4] rfl (ih_15 (x4_15 + (-1)) S_15)
        refine G_iload_n (q := 44) cx dX7_partOfFraction_43 rfl rfl ?_
        refine G_iload (q := 46) cx dX7_partOfFraction_44 rfl rfl ?_
        refine G_case (fun _ => G_none) (fun g19 => ?_)
        refine G_irem (q := 47) cx dX7_partOfFraction_46 rfl g19 ?_
        refine G_if_ne (q := 50) (t := 56) cx dX7_partOfFraction_47 rfl (by decide) (fun c20 => ?_) (fun c20 => ?_)
        · refine G_iinc (q := 59) (j := 0) (v := x4_15 + (-1)) (ls' := [(4, .int (x4_15 + (-1))), (3, .int a0), (0, .int a0), (1, .int a1), (2, .int a2)]) cx dX7_partOfFraction_56 rfl rfl rfl (Nat.le_of_ble_eq_true rfl) rfl ?_
          refine G_goto (t := 30) cx dX7_partOfFraction_59 (by decide) ?_
          exact G_loc [0, 1, 2, 3, 4] rfl (ih_15 (x4_15 + (-1)) S_15)
        refine G_iload_n (q := 51) cx dX7_partOfFraction_50 rfl rfl ?_
        refine G_iload (q := 53) cx dX7_partOfFraction_51 rfl rfl ?_
        refine G_case (fun _ => G_none) (fun g21 => ?_)
        refine G_idiv (q := 54) cx dX7_partOfFraction_53 rfl g21 ?_
        refine G_i2l (q := 55) cx dX7_partOfFraction_54 rfl ?_
        exact G_lret cx rfl dX7_partOfFraction_55 trivial
    refine G_loc [0, 1, 2, 3, 4] rfl (lp_15 _ (fun y4_15 T_15 => ?_) 1000 a1 S3)
    refine G_iload_n (q := 63) cx dX7_partOfFraction_62 rfl rfl ?_
    refine G_i2l (q := 64) cx dX7_partOfFraction_63 rfl ?_
    exact G_lret cx rfl dX7_partOfFraction_64 trivial
  · refine G_ldc2_w (q := 16) (v := (-9223372036854775808 : Int64)) cx dX7_partOfFraction_13 rfl (inG (inT 650 (by decide +kernel)) rfl) ?_
    exact G_lret cx rfl dX7_partOfFraction_16 trivial
