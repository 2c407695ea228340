def L_X8_layBest_55 (a1 : Int32) (x2_2 : Int32) (K_4 : Int32 → St → Option (Unit × St)) : Nat → Int32 → St → Option (Unit × St)
  | 0, _, _ => none
  | n + 1, x3_4, S_4 =>
    if (10 : Int32) ≤ x3_4 then (K_4 x3_4 S_4)
    else (if x2_2 = a1 then (K_4 x3_4 S_4)
    else (bnd (F_X8_byOf S_4 (-1 : Int32) x2_2 x3_4) (fun r7 S8 =>
    bnd (F_X8_takesBest S8 x2_2 x3_4 r7) (fun r11 S12 =>
    L_X8_layBest_55 a1 x2_2 K_4 n (x3_4 + 1) S12))))
def L_X8_layBest_45 (a1 : Int32) (K_2 : Int32 → St → Option (Unit × St)) : Nat → Int32 → St → Option (Unit × St)
  | 0, _, _ => none
  | n + 1, x2_2, S_2 =>
    if (gI S_2 8 0 0) ≤ x2_2 then (K_2 x2_2 S_2)
    else (L_X8_layBest_55 a1 x2_2 
    (fun y3_4 T_4 => L_X8_layBest_45 a1 K_2 n (x2_2 + 1) T_4) 1000 (1 : Int32) S_2)
def L_X8_layBest_20 (K_1 : Int32 → St → Option (Unit × St)) : Nat → Int32 → St → Option (Unit × St)
  | 0, _, _ => none
  | n + 1, x2_1, S_1 =>
    if (10 : Int32) ≤ x2_1 then (K_1 x2_1 S_1)
    else (bnd (F_X8_straightOf S_1 x2_1) (fun r16 S17 =>
    bnd (F_X8_takesBest S17 (-1 : Int32) x2_1 r16) (fun r20 S21 =>
    L_X8_layBest_20 K_1 n (x2_1 + 1) S21)))
def F_X8_layBest (S : St) (a1 : Int32) : Option (Unit × St) :=
  L_X8_layBest_20 
  (fun y2_1 T_1 => L_X8_layBest_45 a1 
  (fun y2_2 T_2 => some ((), T_2)) 1000 (0 : Int32) T_1) 1000 (1 : Int32) (sI (sI (sI S 8 0 33 (-5 : Int32)) 8 0 34 (-5 : Int32)) 8 0 35 (-5 : Int32))
set_option maxRecDepth 10000 in
theorem c_X8_layBest (l : Launch) {D : va_G} {cy : Nat → ClassId} {ad : Nat → Nat → Nat} (hJ : wJ ad nM) (S : St) (a1 : Int32) : CT l yX8_layBest cX8_layBest 4 none 7 D cy ad nM toU okT [.ref (ad 8 0), .int a1] S (F_X8_layBest S a1) := by
  refine CT.of RX8 (by decide) rfl hJ (Nat.le_of_ble_eq_true rfl) rfl ?_
  intro p e s m below meth c cx
  unfold F_X8_layBest
  refine G_aload_n (q := 1) cx dX8_layBest_0 rfl rfl ?_
  refine G_bipush (q := 3) (v := (-5 : Int32)) cx dX8_layBest_1 rfl (by decide) ?_
  refine G_puti (q := 6) cx dX8_layBest_3 rfl cf_8 fl_RX8_111 (Nat.le_of_ble_eq_true rfl) rfl rfl rfl rfl rfl (Nat.le_of_ble_eq_true rfl) ?_
  refine G_aload_n (q := 7) cx dX8_layBest_6 rfl rfl ?_
  refine G_bipush (q := 9) (v := (-5 : Int32)) cx dX8_layBest_7 rfl (by decide) ?_
  refine G_puti (q := 12) cx dX8_layBest_9 rfl cf_8 fl_RX8_114 (Nat.le_of_ble_eq_true rfl) rfl rfl rfl rfl rfl (Nat.le_of_ble_eq_true rfl) ?_
  refine G_aload_n (q := 13) cx dX8_layBest_12 rfl rfl ?_
  refine G_bipush (q := 15) (v := (-5 : Int32)) cx dX8_layBest_13 rfl (by decide) ?_
  refine G_puti (q := 18) cx dX8_layBest_15 rfl cf_8 fl_RX8_117 (Nat.le_of_ble_eq_true rfl) rfl rfl rfl rfl rfl (Nat.le_of_ble_eq_true rfl) ?_
  refine G_iconst (q := 19) (v := (1 : Int32)) cx dX8_layBest_18 rfl (by decide) ?_
  refine G_istore_n (q := 20) (ls' := [(2, .int (1 : Int32)), (0, .ref (ad 8 0)), (1, .int a1)]) cx dX8_layBest_19 rfl rfl (Nat.le_of_ble_eq_true rfl) rfl ?_
  have lp_1 : ∀ (K_1 : Int32 → St → Option (Unit × St)) (hK_1 : ∀ (y2_1 : Int32) (T_1 : St), TG p l e 7 s m ([.ref (ad 8 0), .int a1] : List Value).toArray below meth c D cy ad nM toU okT T_1 43 [(2, .int y2_1), (0, .ref (ad 8 0)), (1, .int a1)] [] (K_1 y2_1 T_1)), ∀ (n_1 : Nat) (x2_1 : Int32) (S_1 : St), TG p l e 7 s m ([.ref (ad 8 0), .int a1] : List Value).toArray below meth c D cy ad nM toU okT S_1 20 [(2, .int x2_1), (0, .ref (ad 8 0)), (1, .int a1)] [] (L_X8_layBest_20 K_1 n_1 x2_1 S_1) := by
    intro K_1 hK_1 n_1
    induction n_1 with
    | zero => intros; exact G_none
    | succ n_1 ih_1 =>
      intro x2_1 S_1
      rw [L_X8_layBest_20.eq_2]
      refine G_iload_n (q := 21) cx dX8_layBest_20 rfl rfl ?_
      refine G_bipush (q := 23) (v := (10 : Int32)) cx dX8_layBest_21 rfl (by decide) ?_
      refine G_icmp_ge (q := 26) (t := 43) cx dX8_layBest_23 rfl (by decide) (fun c15 => ?_) (fun c15 => ?_)
      · exact G_loc [0, 1, 2] rfl (hK_1 x2_1 S_1)
      refine G_aload_n (q := 27) cx dX8_layBest_26 rfl rfl ?_
      refine G_iconst (q := 28) (v := (-1 : Int32)) cx dX8_layBest_27 rfl (by decide) ?_
      refine G_iload_n (q := 29) cx dX8_layBest_28 rfl rfl ?_
      refine G_aload_n (q := 30) cx dX8_layBest_29 rfl rfl ?_
      refine G_iload_n (q := 31) cx dX8_layBest_30 rfl rfl ?_
      refine G_callV (q := 34) (d' := 3) (f := 8) (i := 0) (As := [.int x2_1]) (rest := [.int x2_1, .int (-1 : Int32), .ref (ad 8 0)]) (stk := fun r16 => [.int r16, .int x2_1, .int (-1 : Int32), .ref (ad 8 0)]) cx dX8_layBest_31 rfl cf_8 (Nat.le_of_ble_eq_true rfl) ml_RX8_351 rfl rfl (Nat.le_of_ble_eq_true rfl) (Nat.le_of_ble_eq_true rfl) (Nat.le_of_ble_eq_true rfl) (c_X8_straightOf l hJ  _ x2_1) (fun _ => rfl) (fun r16 S17 h18 o19 => ?_)
      refine G_callV (q := 37) (d' := 0) (f := 8) (i := 0) (As := [.int (-1 : Int32), .int x2_1, .int r16]) (rest := []) (stk := fun _ => []) cx dX8_layBest_34 rfl cf_8 (Nat.le_of_ble_eq_true rfl) ml_RX8_354 rfl rfl (Nat.le_of_ble_eq_true rfl) (Nat.le_of_ble_eq_true rfl) (Nat.le_of_ble_eq_true rfl) (c_X8_takesBest l hJ  _ (-1 : Int32) x2_1 r16) (fun _ => rfl) (fun r20 S21 h22 o23 => ?_)
      refine G_iinc (q := 40) (j := 0) (v := x2_1 + 1) (ls' := [(2, .int (x2_1 + 1)), (0, .ref (ad 8 0)), (1, .int a1)]) cx dX8_layBest_37 rfl rfl rfl (Nat.le_of_ble_eq_true rfl) rfl ?_
      refine G_goto (t := 20) cx dX8_layBest_40 (by decide) ?_
      exact G_loc [0, 1, 2] rfl (ih_1 (x2_1 + 1) S21)
  refine G_loc [0, 1, 2] rfl (lp_1 _ (fun y2_1 T_1 => ?_) 1000 (1 : Int32) (sI (sI (sI S 8 0 33 (-5 : Int32)) 8 0 34 (-5 : Int32)) 8 0 35 (-5 : Int32)))
  refine G_iconst (q := 44) (v := (0 : Int32)) cx dX8_layBest_43 rfl (by decide) ?_
  refine G_istore_n (q := 45) (ls' := [(2, .int (0 : Int32)), (0, .ref (ad 8 0)), (1, .int a1)]) cx dX8_layBest_44 rfl rfl (Nat.le_of_ble_eq_true rfl) rfl ?_
  have lp_2 : ∀ (K_2 : Int32 → St → Option (Unit × St)) (hK_2 : ∀ (y2_2 : Int32) (T_2 : St), TG p l e 7 s m ([.ref (ad 8 0), .int a1] : List Value).toArray below meth c D cy ad nM toU okT T_2 91 [(2, .int y2_2), (0, .ref (ad 8 0)), (1, .int a1)] [] (K_2 y2_2 T_2)), ∀ (n_2 : Nat) (x2_2 : Int32) (S_2 : St), TG p l e 7 s m ([.ref (ad 8 0), .int a1] : List Value).toArray below meth c D cy ad nM toU okT S_2 45 [(2, .int x2_2), (0, .ref (ad 8 0)), (1, .int a1)] [] (L_X8_layBest_45 a1 K_2 n_2 x2_2 S_2) := by
    intro K_2 hK_2 n_2
    induction n_2 with
    | zero => intros; exact G_none
    | succ n_2 ih_2 =>
      intro x2_2 S_2
      rw [L_X8_layBest_45.eq_2]
      refine G_iload_n (q := 46) cx dX8_layBest_45 rfl rfl ?_
      refine G_aload_n (q := 47) cx dX8_layBest_46 rfl rfl ?_
      refine G_geti (q := 50) cx dX8_layBest_47 rfl cf_8 fl_RX8_7 (Nat.le_of_ble_eq_true rfl) rfl (Nat.le_of_ble_eq_true rfl) ?_
      refine G_icmp_ge (q := 53) (t := 91) cx dX8_layBest_50 rfl (by decide) (fun c3 => ?_) (fun c3 => ?_)
      · exact G_loc [0, 1, 2] rfl (hK_2 x2_2 S_2)
      refine G_iconst (q := 54) (v := (1 : Int32)) cx dX8_layBest_53 rfl (by decide) ?_
      refine G_istore_n (q := 55) (ls' := [(3, .int (1 : Int32)), (2, .int x2_2), (0, .ref (ad 8 0)), (1, .int a1)]) cx dX8_layBest_54 rfl rfl (Nat.le_of_ble_eq_true rfl) rfl ?_
      have lp_4 : ∀ (K_4 : Int32 → St → Option (Unit × St)) (hK_4 : ∀ (y3_4 : Int32) (T_4 : St), TG p l e 7 s m ([.ref (ad 8 0), .int a1] : List Value).toArray below meth c D cy ad nM toU okT T_4 85 [(3, .int y3_4), (2, .int x2_2), (0, .ref (ad 8 0)), (1, .int a1)] [] (K_4 y3_4 T_4)), ∀ (n_4 : Nat) (x3_4 : Int32) (S_4 : St), TG p l e 7 s m ([.ref (ad 8 0), .int a1] : List Value).toArray below meth c D cy ad nM toU okT S_4 55 [(3, .int x3_4), (2, .int x2_2), (0, .ref (ad 8 0)), (1, .int a1)] [] (L_X8_layBest_55 a1 x2_2 K_4 n_4 x3_4 S_4) := by
        intro K_4 hK_4 n_4
        induction n_4 with
        | zero => intros; exact G_none
        | succ n_4 ih_4 =>
          intro x3_4 S_4
          rw [L_X8_layBest_55.eq_2]
          refine G_iload_n (q := 56) cx dX8_layBest_55 rfl rfl ?_
          refine G_bipush (q := 58) (v := (10 : Int32)) cx dX8_layBest_56 rfl (by decide) ?_
          refine G_icmp_ge (q := 61) (t := 85) cx dX8_layBest_58 rfl (by decide) (fun c5 => ?_) (fun c5 => ?_)
          · exact G_loc [0, 1, 2, 3] rfl (hK_4 x3_4 S_4)
          refine G_iload_n (q := 62) cx dX8_layBest_61 rfl rfl ?_
          refine G_iload_n (q := 63) cx dX8_layBest_62 rfl rfl ?_
          refine G_icmp_eq (q := 66) (t := 85) cx dX8_layBest_63 rfl (by decide) (fun c6 => ?_) (fun c6 => ?_)
          · exact G_loc [0, 1, 2, 3] rfl (hK_4 x3_4 S_4)
          refine G_aload_n (q := 67) cx dX8_layBest_66 rfl rfl ?_
          refine G_iload_n (q := 68) cx dX8_layBest_67 rfl rfl ?_
          refine G_iload_n (q := 69) cx dX8_layBest_68 rfl rfl ?_
          refine G_aload_n (q := 70) cx dX8_layBest_69 rfl rfl ?_
          refine G_iconst (q := 71) (v := (-1 : Int32)) cx dX8_layBest_70 rfl (by decide) ?_
          refine G_iload_n (q := 72) cx dX8_layBest_71 rfl rfl ?_
          refine G_iload_n (q := 73) cx dX8_layBest_72 rfl rfl ?_
          refine G_callV (q := 76) (d' := 6) (f := 8) (i := 0) (As := [.int (-1 : Int32), .int x2_2, .int x3_4]) (rest := [.int x3_4, .int x2_2, .ref (ad 8 0)]) (stk := fun r7 => [.int r7, .int x3_4, .int x2_2, .ref (ad 8 0)]) cx dX8_layBest_73 rfl cf_8 (Nat.le_of_ble_eq_true rfl) ml_RX8_348 rfl rfl (Nat.le_of_ble_eq_true rfl) (Nat.le_of_ble_eq_true rfl) (Nat.le_of_ble_eq_true rfl) (c_X8_byOf l hJ  _ (-1 : Int32) x2_2 x3_4) (fun _ => rfl) (fun r7 S8 h9 o10 => ?_)
          refine G_callV (q := 79) (d' := 0) (f := 8) (i := 0) (As := [.int x2_2, .int x3_4, .int r7]) (rest := []) (stk := fun _ => []) cx dX8_layBest_76 rfl cf_8 (Nat.le_of_ble_eq_true rfl) ml_RX8_354 rfl rfl (Nat.le_of_ble_eq_true rfl) (Nat.le_of_ble_eq_true rfl) (Nat.le_of_ble_eq_true rfl) (c_X8_takesBest l hJ  _ x2_2 x3_4 r7) (fun _ => rfl) (fun r11 S12 h13 o14 => ?_)
          refine G_iinc (q := 82) (j := 0) (v := x3_4 + 1) (ls' := [(3, .int (x3_4 + 1)), (2, .int x2_2), (0, .ref (ad 8 0)), (1, .int a1)]) cx dX8_layBest_79 rfl rfl rfl (Nat.le_of_ble_eq_true rfl) rfl ?_
          refine G_goto (t := 55) cx dX8_layBest_82 (by decide) ?_
          exact G_loc [0, 1, 2, 3] rfl (ih_4 (x3_4 + 1) S12)
      refine G_loc [0, 1, 2, 3] rfl (lp_4 _ (fun y3_4 T_4 => ?_) 1000 (1 : Int32) S_2)
      refine G_iinc (q := 88) (j := 1) (v := x2_2 + 1) (ls' := [(2, .int (x2_2 + 1)), (3, .int y3_4), (0, .ref (ad 8 0)), (1, .int a1)]) cx dX8_layBest_85 rfl rfl rfl (Nat.le_of_ble_eq_true rfl) rfl ?_
      refine G_goto (t := 45) cx dX8_layBest_88 (by decide) ?_
      exact G_loc [0, 2, 3] rfl (ih_2 (x2_2 + 1) T_4)
  refine G_loc [0, 1, 2] rfl (lp_2 _ (fun y2_2 T_2 => ?_) 1000 (0 : Int32) T_1)
  exact G_vret cx rfl dX8_layBest_91 trivial
def F_X8_best (S : St) (a1 : Int32) : Option (Int32 × St) :=
  bnd (F_X8_in S a1 (0 : Int32) (2 : Int32)) (fun r1 S2 =>
  if r1 = 0 then (some ((-1001 : Int32), S2))
  else (bnd (F_X8_layBest S2 (-1 : Int32)) (fun r6 S7 =>
  if a1 = 0 then (some (gI S7 8 0 33, S7))
  else (if a1 = (1 : Int32) then (some (gI S7 8 0 34, S7))
  else (some (gI S7 8 0 35, S7))))))
set_option maxRecDepth 10000 in
theorem c_X8_best (l : Launch) {D : va_G} {cy : Nat → ClassId} {ad : Nat → Nat → Nat} (hJ : wJ ad nM) (S : St) (a1 : Int32) : CT l yX8_best cX8_best 2 (some .int) 8 D cy ad nM toI okT [.ref (ad 8 0), .int a1] S (F_X8_best S a1) := by
  refine CT.of RX8 (by decide) rfl hJ (Nat.le_of_ble_eq_true rfl) rfl ?_
  intro p e s m below meth c cx
  unfold F_X8_best
  refine G_aload_n (q := 1) cx dX8_best_0 rfl rfl ?_
  refine G_iload_n (q := 2) cx dX8_best_1 rfl rfl ?_
  refine G_iconst (q := 3) (v := (0 : Int32)) cx dX8_best_2 rfl (by decide) ?_
  refine G_iconst (q := 4) (v := (2 : Int32)) cx dX8_best_3 rfl (by decide) ?_
  refine G_callV (q := 7) (d' := 0) (f := 8) (i := 0) (As := [.int a1, .int (0 : Int32), .int (2 : Int32)]) (rest := []) (stk := fun r1 => [.int r1]) cx dX8_best_4 rfl cf_8 (Nat.le_of_ble_eq_true rfl) ml_RX8_227 rfl rfl (Nat.le_of_ble_eq_true rfl) (Nat.le_of_ble_eq_true rfl) (Nat.le_of_ble_eq_true rfl) (c_X8_in l hJ  _ a1 (0 : Int32) (2 : Int32)) (fun _ => rfl) (fun r1 S2 h3 o4 => ?_)
  refine G_if_ne (q := 10) (t := 14) cx dX8_best_7 rfl (by decide) (fun c5 => ?_) (fun c5 => ?_)
  · refine G_aload_n (q := 15) cx dX8_best_14 rfl rfl ?_
    refine G_iconst (q := 16) (v := (-1 : Int32)) cx dX8_best_15 rfl (by decide) ?_
    refine G_callV (q := 19) (d' := 7) (f := 8) (i := 0) (As := [.int (-1 : Int32)]) (rest := []) (stk := fun _ => []) cx dX8_best_16 rfl cf_8 (Nat.le_of_ble_eq_true rfl) ml_RX8_358 rfl rfl (Nat.le_of_ble_eq_true rfl) (Nat.le_of_ble_eq_true rfl) (Nat.le_of_ble_eq_true rfl) (c_X8_layBest l hJ  _ (-1 : Int32)) (fun _ => rfl) (fun r6 S7 h8 o9 => ?_)
    refine G_iload_n (q := 20) cx dX8_best_19 rfl rfl ?_
    refine G_if_ne (q := 23) (t := 30) cx dX8_best_20 rfl (by decide) (fun c10 => ?_) (fun c10 => ?_)
    · refine G_iload_n (q := 31) cx dX8_best_30 rfl rfl ?_
      refine G_iconst (q := 32) (v := (1 : Int32)) cx dX8_best_31 rfl (by decide) ?_
      refine G_icmp_ne (q := 35) (t := 42) cx dX8_best_32 rfl (by decide) (fun c11 => ?_) (fun c11 => ?_)
      · refine G_aload_n (q := 43) cx dX8_best_42 rfl rfl ?_
        refine G_geti (q := 46) cx dX8_best_43 rfl cf_8 fl_RX8_117 (Nat.le_of_ble_eq_true rfl) rfl (Nat.le_of_ble_eq_true rfl) ?_
        exact G_iret cx rfl dX8_best_46 trivial
      refine G_aload_n (q := 36) cx dX8_best_35 rfl rfl ?_
      refine G_geti (q := 39) cx dX8_best_36 rfl cf_8 fl_RX8_114 (Nat.le_of_ble_eq_true rfl) rfl (Nat.le_of_ble_eq_true rfl) ?_
      refine G_goto (t := 46) cx dX8_best_39 (by decide) ?_
      exact G_iret cx rfl dX8_best_46 trivial
    refine G_aload_n (q := 24) cx dX8_best_23 rfl rfl ?_
    refine G_geti (q := 27) cx dX8_best_24 rfl cf_8 fl_RX8_111 (Nat.le_of_ble_eq_true rfl) rfl (Nat.le_of_ble_eq_true rfl) ?_
    refine G_goto (t := 46) cx dX8_best_27 (by decide) ?_
    exact G_iret cx rfl dX8_best_46 trivial
  · refine G_sipush (q := 13) (v := (-1001 : Int32)) cx dX8_best_10 rfl (by decide) ?_
    exact G_iret cx rfl dX8_best_13 trivial
def L_X8_two_45 (a1 : Int32) (x5_11 : Int32) (K_14 : Int32 → Int32 → Int32 → St → Option (Int32 × St)) : Nat → Int32 → Int32 → Int32 → St → Option (Int32 × St)
  | 0, _, _, _, _ => none
  | n + 1, x3_14, x4_14, x6_14, S_14 =>
    if (gI S_14 8 0 0) ≤ x6_14 then (K_14 x3_14 x4_14 x6_14 S_14)
    else (if x5_11 = x6_14 then (L_X8_two_45 a1 x5_11 K_14 n x3_14 x4_14 (x6_14 + 1) S_14)
    else (bnd (F_X8_byOf S_14 x5_11 x6_14 a1) (fun r17 S18 =>
    if r17 < 0 then (L_X8_two_45 a1 x5_11 K_14 n x3_14 x4_14 (x6_14 + 1) S18)
    else (if x3_14 < 0 then (L_X8_two_45 a1 x5_11 K_14 n (((10 : Int32) * x5_11) + x6_14) r17 (x6_14 + 1) S18)
    else (if r17 < x4_14 then (L_X8_two_45 a1 x5_11 K_14 n (((10 : Int32) * x5_11) + x6_14) r17 (x6_14 + 1) S18)
    else (L_X8_two_45 a1 x5_11 K_14 n x3_14 x4_14 (x6_14 + 1) S18))))))
def L_X8_two_33 (a1 : Int32) (K_11 : Int32 → Int32 → Int32 → St → Option (Int32 × St)) : Nat → Int32 → Int32 → Int32 → St → Option (Int32 × St)
  | 0, _, _, _, _ => none
  | n + 1, x3_11, x4_11, x5_11, S_11 =>
    if (gI S_11 8 0 0) ≤ x5_11 then (K_11 x3_11 x4_11 x5_11 S_11)
    else (L_X8_two_45 a1 x5_11 
    (fun y3_14 y4_14 y6_14 T_14 => L_X8_two_33 a1 K_11 n y3_14 y4_14 (x5_11 + 1) T_14) 1000 x3_11 x4_11 (0 : Int32) S_11)
def F_X8_two (S : St) (a1 : Int32) (a2 : Int32) : Option (Int32 × St) :=
  bnd (F_X8_in S a2 (0 : Int32) (1 : Int32)) (fun r1 S2 =>
  if r1 = 0 then (some ((-1 : Int32), S2))
  else (bnd (F_X8_isPace S2 a1) (fun r6 S7 =>
  if r6 = 0 then (some ((-2 : Int32), S7))
  else (L_X8_two_33 a1 
  (fun y3_11 y4_11 y5_11 T_11 => if a2 = 0 then (some (y3_11, T_11))
  else (some (y4_11, T_11))) 1000 (-5 : Int32) (-5 : Int32) (0 : Int32) S7))))
set_option maxRecDepth 10000 in
theorem c_X8_two (l : Launch) {D : va_G} {cy : Nat → ClassId} {ad : Nat → Nat → Nat} (hJ : wJ ad nM) (S : St) (a1 : Int32) (a2 : Int32) : CT l yX8_two cX8_two 8 (some .int) 7 D cy ad nM toI okT [.ref (ad 8 0), .int a1, .int a2] S (F_X8_two S a1 a2) := by
  refine CT.of RX8 (by decide) rfl hJ (Nat.le_of_ble_eq_true rfl) rfl ?_
  intro p e s m below meth c cx
  unfold F_X8_two
  refine G_aload_n (q := 1) cx dX8_two_0 rfl rfl ?_
  refine G_iload_n (q := 2) cx dX8_two_1 rfl rfl ?_
  refine G_iconst (q := 3) (v := (0 : Int32)) cx dX8_two_2 rfl (by decide) ?_
  refine G_iconst (q := 4) (v := (1 : Int32)) cx dX8_two_3 rfl (by decide) ?_
  refine G_callV (q := 7) (d' := 0) (f := 8) (i := 0) (As := [.int a2, .int (0 : Int32), .int (1 : Int32)]) (rest := []) (stk := fun r1 => [.int r1]) cx dX8_two_4 rfl cf_8 (Nat.le_of_ble_eq_true rfl) ml_RX8_227 rfl rfl (Nat.le_of_ble_eq_true rfl) (Nat.le_of_ble_eq_true rfl) (Nat.le_of_ble_eq_true rfl) (c_X8_in l hJ  _ a2 (0 : Int32) (1 : Int32)) (fun _ => rfl) (fun r1 S2 h3 o4 => ?_)
  refine G_if_ne (q := 10) (t := 12) cx dX8_two_7 rfl (by decide) (fun c5 => ?_) (fun c5 => ?_)
  · refine G_aload_n (q := 13) cx dX8_two_12 rfl rfl ?_
    refine G_iload_n (q := 14) cx dX8_two_13 rfl rfl ?_
    refine G_callV (q := 17) (d' := 1) (f := 8) (i := 0) (As := [.int a1]) (rest := []) (stk := fun r6 => [.int r6]) cx dX8_two_14 rfl cf_8 (Nat.le_of_ble_eq_true rfl) ml_RX8_326 rfl rfl (Nat.le_of_ble_eq_true rfl) (Nat.le_of_ble_eq_true rfl) (Nat.le_of_ble_eq_true rfl) (c_X8_isPace l hJ  _ a1) (fun _ => rfl) (fun r6 S7 h8 o9 => ?_)
    refine G_if_ne (q := 20) (t := 23) cx dX8_two_17 rfl (by decide) (fun c10 => ?_) (fun c10 => ?_)
    · refine G_bipush (q := 25) (v := (-5 : Int32)) cx dX8_two_23 rfl (by decide) ?_
      refine G_istore_n (q := 26) (ls' := [(3, .int (-5 : Int32)), (0, .ref (ad 8 0)), (1, .int a1), (2, .int a2)]) cx dX8_two_25 rfl rfl (Nat.le_of_ble_eq_true rfl) rfl ?_
      refine G_bipush (q := 28) (v := (-5 : Int32)) cx dX8_two_26 rfl (by decide) ?_
      refine G_istore (q := 30) (ls' := [(4, .int (-5 : Int32)), (3, .int (-5 : Int32)), (0, .ref (ad 8 0)), (1, .int a1), (2, .int a2)]) cx dX8_two_28 rfl (Nat.le_of_ble_eq_true rfl) rfl ?_
      refine G_iconst (q := 31) (v := (0 : Int32)) cx dX8_two_30 rfl (by decide) ?_
      refine G_istore (q := 33) (ls' := [(5, .int (0 : Int32)), (4, .int (-5 : Int32)), (3, .int (-5 : Int32)), (0, .ref (ad 8 0)), (1, .int a1), (2, .int a2)]) cx dX8_two_31 rfl (Nat.le_of_ble_eq_true rfl) rfl ?_
      have lp_11 : ∀ (K_11 : Int32 → Int32 → Int32 → St → Option (Int32 × St)) (hK_11 : ∀ (y3_11 : Int32) (y4_11 : Int32) (y5_11 : Int32) (T_11 : St), TG p l e 7 s m ([.ref (ad 8 0), .int a1, .int a2] : List Value).toArray below meth c D cy ad nM toI okT T_11 121 [(3, .int y3_11), (4, .int y4_11), (5, .int y5_11), (0, .ref (ad 8 0)), (1, .int a1), (2, .int a2)] [] (K_11 y3_11 y4_11 y5_11 T_11)), ∀ (n_11 : Nat) (x3_11 : Int32) (x4_11 : Int32) (x5_11 : Int32) (S_11 : St), TG p l e 7 s m ([.ref (ad 8 0), .int a1, .int a2] : List Value).toArray below meth c D cy ad nM toI okT S_11 33 [(3, .int x3_11), (4, .int x4_11), (5, .int x5_11), (0, .ref (ad 8 0)), (1, .int a1), (2, .int a2)] [] (L_X8_two_33 a1 K_11 n_11 x3_11 x4_11 x5_11 S_11) := by
        intro K_11 hK_11 n_11
        induction n_11 with
        | zero => intros; exact G_none
        | succ n_11 ih_11 =>
          intro x3_11 x4_11 x5_11 S_11
          rw [L_X8_two_33.eq_2]
          refine G_iload (q := 35) cx dX8_two_33 rfl rfl ?_
          refine G_aload_n (q := 36) cx dX8_two_35 rfl rfl ?_
          refine G_geti (q := 39) cx dX8_two_36 rfl cf_8 fl_RX8_7 (Nat.le_of_ble_eq_true rfl) rfl (Nat.le_of_ble_eq_true rfl) ?_
          refine G_icmp_ge (q := 42) (t := 121) cx dX8_two_39 rfl (by decide) (fun c13 => ?_) (fun c13 => ?_)
          · exact G_loc [0, 1, 2, 3, 4, 5] rfl (hK_11 x3_11 x4_11 x5_11 S_11)
          refine G_iconst (q := 43) (v := (0 : Int32)) cx dX8_two_42 rfl (by decide) ?_
          refine G_istore (q := 45) (ls' := [(6, .int (0 : Int32)), (3, .int x3_11), (4, .int x4_11), (5, .int x5_11), (0, .ref (ad 8 0)), (1, .int a1), (2, .int a2)]) cx dX8_two_43 rfl (Nat.le_of_ble_eq_true rfl) rfl ?_
          have lp_14 : ∀ (K_14 : Int32 → Int32 → Int32 → St → Option (Int32 × St)) (hK_14 : ∀ (y3_14 : Int32) (y4_14 : Int32) (y6_14 : Int32) (T_14 : St), TG p l e 7 s m ([.ref (ad 8 0), .int a1, .int a2] : List Value).toArray below meth c D cy ad nM toI okT T_14 115 [(3, .int y3_14), (4, .int y4_14), (6, .int y6_14), (5, .int x5_11), (0, .ref (ad 8 0)), (1, .int a1), (2, .int a2)] [] (K_14 y3_14 y4_14 y6_14 T_14)), ∀ (n_14 : Nat) (x3_14 : Int32) (x4_14 : Int32) (x6_14 : Int32) (S_14 : St), TG p l e 7 s m ([.ref (ad 8 0), .int a1, .int a2] : List Value).toArray below meth c D cy ad nM toI okT S_14 45 [(3, .int x3_14), (4, .int x4_14), (6, .int x6_14), (5, .int x5_11), (0, .ref (ad 8 0)), (1, .int a1), (2, .int a2)] [] (L_X8_two_45 a1 x5_11 K_14 n_14 x3_14 x4_14 x6_14 S_14) := by
            intro K_14 hK_14 n_14
            induction n_14 with
            | zero => intros; exact G_none
            | succ n_14 ih_14 =>
              intro x3_14 x4_14 x6_14 S_14
              rw [L_X8_two_45.eq_2]
              refine G_iload (q := 47) cx dX8_two_45 rfl rfl ?_
              refine G_aload_n (q := 48) cx dX8_two_47 rfl rfl ?_
              refine G_geti (q := 51) cx dX8_two_48 rfl cf_8 fl_RX8_7 (Nat.le_of_ble_eq_true rfl) rfl (Nat.le_of_ble_eq_true rfl) ?_
              refine G_icmp_ge (q := 54) (t := 115) cx dX8_two_51 rfl (by decide) (fun c15 => ?_) (fun c15 => ?_)
              · exact G_loc [0, 1, 2, 3, 4, 5, 6] rfl (hK_14 x3_14 x4_14 x6_14 S_14)
              refine G_iload (q := 56) cx dX8_two_54 rfl rfl ?_
              refine G_iload (q := 58) cx dX8_two_56 rfl rfl ?_
              refine G_icmp_ne (q := 61) (t := 66) cx dX8_two_58 rfl (by decide) (fun c16 => ?_) (fun c16 => ?_)
              · refine G_aload_n (q := 67) cx dX8_two_66 rfl rfl ?_
                refine G_iload (q := 69) cx dX8_two_67 rfl rfl ?_
                refine G_iload (q := 71) cx dX8_two_69 rfl rfl ?_
                refine G_iload_n (q := 72) cx dX8_two_71 rfl rfl ?_
                refine G_callV (q := 75) (d' := 6) (f := 8) (i := 0) (As := [.int x5_11, .int x6_14, .int a1]) (rest := []) (stk := fun r17 => [.int r17]) cx dX8_two_72 rfl cf_8 (Nat.le_of_ble_eq_true rfl) ml_RX8_348 rfl rfl (Nat.le_of_ble_eq_true rfl) (Nat.le_of_ble_eq_true rfl) (Nat.le_of_ble_eq_true rfl) (c_X8_byOf l hJ  _ x5_11 x6_14 a1) (fun _ => rfl) (fun r17 S18 h19 o20 => ?_)
                refine G_istore (q := 77) (ls' := [(7, .int r17), (3, .int x3_14), (4, .int x4_14), (6, .int x6_14), (5, .int x5_11), (0, .ref (ad 8 0)), (1, .int a1), (2, .int a2)]) cx dX8_two_75 rfl (Nat.le_of_ble_eq_true rfl) rfl ?_
                refine G_iload (q := 79) cx dX8_two_77 rfl rfl ?_
                refine G_if_lt (q := 82) (t := 109) cx dX8_two_79 rfl (by decide) (fun c21 => ?_) (fun c21 => ?_)
                · refine G_iinc (q := 112) (j := 3) (v := x6_14 + 1) (ls' := [(6, .int (x6_14 + 1)), (7, .int r17), (3, .int x3_14), (4, .int x4_14), (5, .int x5_11), (0, .ref (ad 8 0)), (1, .int a1), (2, .int a2)]) cx dX8_two_109 rfl rfl rfl (Nat.le_of_ble_eq_true rfl) rfl ?_
                  refine G_goto (t := 45) cx dX8_two_112 (by decide) ?_
                  exact G_loc [2, 3, 0, 4, 5, 6, 7] rfl (ih_14 x3_14 x4_14 (x6_14 + 1) S18)
                refine G_iload_n (q := 83) cx dX8_two_82 rfl rfl ?_
                refine G_if_lt (q := 86) (t := 96) cx dX8_two_83 rfl (by decide) (fun c22 => ?_) (fun c22 => ?_)
                · refine G_bipush (q := 98) (v := (10 : Int32)) cx dX8_two_96 rfl (by decide) ?_
                  refine G_iload (q := 100) cx dX8_two_98 rfl rfl ?_
                  refine G_imul (q := 101) cx dX8_two_100 rfl ?_
                  refine G_iload (q := 103) cx dX8_two_101 rfl rfl ?_
                  refine G_iadd (q := 104) cx dX8_two_103 rfl ?_
                  refine G_istore_n (q := 105) (ls' := [(3, .int (((10 : Int32) * x5_11) + x6_14)), (7, .int r17), (4, .int x4_14), (6, .int x6_14), (5, .int x5_11), (0, .ref (ad 8 0)), (1, .int a1), (2, .int a2)]) cx dX8_two_104 rfl rfl (Nat.le_of_ble_eq_true rfl) rfl ?_
                  refine G_iload (q := 107) cx dX8_two_105 rfl rfl ?_
                  refine G_istore (q := 109) (ls' := [(4, .int r17), (3, .int (((10 : Int32) * x5_11) + x6_14)), (7, .int r17), (6, .int x6_14), (5, .int x5_11), (0, .ref (ad 8 0)), (1, .int a1), (2, .int a2)]) cx dX8_two_107 rfl (Nat.le_of_ble_eq_true rfl) rfl ?_
                  refine G_iinc (q := 112) (j := 3) (v := x6_14 + 1) (ls' := [(6, .int (x6_14 + 1)), (4, .int r17), (3, .int (((10 : Int32) * x5_11) + x6_14)), (7, .int r17), (5, .int x5_11), (0, .ref (ad 8 0)), (1, .int a1), (2, .int a2)]) cx dX8_two_109 rfl rfl rfl (Nat.le_of_ble_eq_true rfl) rfl ?_
                  refine G_goto (t := 45) cx dX8_two_112 (by decide) ?_
                  exact G_loc [2, 1, 0, 4, 5, 6, 7] rfl (ih_14 (((10 : Int32) * x5_11) + x6_14) r17 (x6_14 + 1) S18)
                refine G_iload (q := 88) cx dX8_two_86 rfl rfl ?_
                refine G_iload (q := 90) cx dX8_two_88 rfl rfl ?_
                refine G_icmp_lt (q := 93) (t := 96) cx dX8_two_90 rfl (by decide) (fun c23 => ?_) (fun c23 => ?_)
                · refine G_bipush (q := 98) (v := (10 : Int32)) cx dX8_two_96 rfl (by decide) ?_
                  refine G_iload (q := 100) cx dX8_two_98 rfl rfl ?_
                  refine G_imul (q := 101) cx dX8_two_100 rfl ?_
                  refine G_iload (q := 103) cx dX8_two_101 rfl rfl ?_
                  refine G_iadd (q := 104) cx dX8_two_103 rfl ?_
                  refine G_istore_n (q := 105) (ls' := [(3, .int (((10 : Int32) * x5_11) + x6_14)), (7, .int r17), (4, .int x4_14), (6, .int x6_14), (5, .int x5_11), (0, .ref (ad 8 0)), (1, .int a1), (2, .int a2)]) cx dX8_two_104 rfl rfl (Nat.le_of_ble_eq_true rfl) rfl ?_
                  refine G_iload (q := 107) cx dX8_two_105 rfl rfl ?_
                  refine G_istore (q := 109) (ls' := [(4, .int r17), (3, .int (((10 : Int32) * x5_11) + x6_14)), (7, .int r17), (6, .int x6_14), (5, .int x5_11), (0, .ref (ad 8 0)), (1, .int a1), (2, .int a2)]) cx dX8_two_107 rfl (Nat.le_of_ble_eq_true rfl) rfl ?_
                  refine G_iinc (q := 112) (j := 3) (v := x6_14 + 1) (ls' := [(6, .int (x6_14 + 1)), (4, .int r17), (3, .int (((10 : Int32) * x5_11) + x6_14)), (7, .int r17), (5, .int x5_11), (0, .ref (ad 8 0)), (1, .int a1), (2, .int a2)]) cx dX8_two_109 rfl rfl rfl (Nat.le_of_ble_eq_true rfl) rfl ?_
                  refine G_goto (t := 45) cx dX8_two_112 (by decide) ?_
                  exact G_loc [2, 1, 0, 4, 5, 6, 7] rfl (ih_14 (((10 : Int32) * x5_11) + x6_14) r17 (x6_14 + 1) S18)
                refine G_goto (t := 109) cx dX8_two_93 (by decide) ?_
                refine G_iinc (q := 112) (j := 3) (v := x6_14 + 1) (ls' := [(6, .int (x6_14 + 1)), (7, .int r17), (3, .int x3_14), (4, .int x4_14), (5, .int x5_11), (0, .ref (ad 8 0)), (1, .int a1), (2, .int a2)]) cx dX8_two_109 rfl rfl rfl (Nat.le_of_ble_eq_true rfl) rfl ?_
                refine G_goto (t := 45) cx dX8_two_112 (by decide) ?_
                exact G_loc [2, 3, 0, 4, 5, 6, 7] rfl (ih_14 x3_14 x4_14 (x6_14 + 1) S18)
              refine G_bipush (q := 63) (v := (-5 : Int32)) cx dX8_two_61 rfl (by decide) ?_
              refine G_goto (t := 75) cx dX8_two_63 (by decide) ?_
              refine G_istore (q := 77) (ls' := [(7, .int (-5 : Int32)), (3, .int x3_14), (4, .int x4_14), (6, .int x6_14), (5, .int x5_11), (0, .ref (ad 8 0)), (1, .int a1), (2, .int a2)]) cx dX8_two_75 rfl (Nat.le_of_ble_eq_true rfl) rfl ?_
              refine G_iload (q := 79) cx dX8_two_77 rfl rfl ?_
              refine G_if_lt_y (q := 82) (t := 109) cx dX8_two_79 rfl (by decide) (by decide) ?_
              refine G_iinc (q := 112) (j := 3) (v := x6_14 + 1) (ls' := [(6, .int (x6_14 + 1)), (7, .int (-5 : Int32)), (3, .int x3_14), (4, .int x4_14), (5, .int x5_11), (0, .ref (ad 8 0)), (1, .int a1), (2, .int a2)]) cx dX8_two_109 rfl rfl rfl (Nat.le_of_ble_eq_true rfl) rfl ?_
              refine G_goto (t := 45) cx dX8_two_112 (by decide) ?_
              exact G_loc [2, 3, 0, 4, 5, 6, 7] rfl (ih_14 x3_14 x4_14 (x6_14 + 1) S_14)
          refine G_loc [1, 2, 0, 3, 4, 5, 6] rfl (lp_14 _ (fun y3_14 y4_14 y6_14 T_14 => ?_) 1000 x3_11 x4_11 (0 : Int32) S_11)
          refine G_iinc (q := 118) (j := 3) (v := x5_11 + 1) (ls' := [(5, .int (x5_11 + 1)), (3, .int y3_14), (4, .int y4_14), (6, .int y6_14), (0, .ref (ad 8 0)), (1, .int a1), (2, .int a2)]) cx dX8_two_115 rfl rfl rfl (Nat.le_of_ble_eq_true rfl) rfl ?_
          refine G_goto (t := 33) cx dX8_two_118 (by decide) ?_
          exact G_loc [1, 2, 0, 4, 5, 6] rfl (ih_11 y3_14 y4_14 (x5_11 + 1) T_14)
      refine G_loc [2, 1, 0, 3, 4, 5] rfl (lp_11 _ (fun y3_11 y4_11 y5_11 T_11 => ?_) 1000 (-5 : Int32) (-5 : Int32) (0 : Int32) S7)
      refine G_iload_n (q := 122) cx dX8_two_121 rfl rfl ?_
      refine G_if_ne (q := 125) (t := 129) cx dX8_two_122 rfl (by decide) (fun c12 => ?_) (fun c12 => ?_)
      · refine G_iload (q := 131) cx dX8_two_129 rfl rfl ?_
        exact G_iret cx rfl dX8_two_131 trivial
      · refine G_iload_n (q := 126) cx dX8_two_125 rfl rfl ?_
        refine G_goto (t := 131) cx dX8_two_126 (by decide) ?_
        exact G_iret cx rfl dX8_two_131 trivial
    · refine G_bipush (q := 22) (v := (-2 : Int32)) cx dX8_two_20 rfl (by decide) ?_
      exact G_iret cx rfl dX8_two_22 trivial
  · refine G_iconst (q := 11) (v := (-1 : Int32)) cx dX8_two_10 rfl (by decide) ?_
    exact G_iret cx rfl dX8_two_11 trivial
def F_X8_worth (S : St) (a1 : Int32) : Option (Int32 × St) :=
  bnd (F_X8_isLift S a1) (fun r1 S2 =>
  if r1 = 0 then (some ((-1 : Int32), S2))
  else (bnd (F_X8_layBest S2 (-1 : Int32)) (fun r6 S7 =>
  if 0 ≤ (gI S7 8 0 35) then (bnd (F_X8_layBest S7 a1) (fun r11 S12 =>
  if 0 ≤ (gI S12 8 0 35) then (some ((gI S12 8 0 35) - (gI S7 8 0 35), S12))
  else (some ((999 : Int32) - (gI S7 8 0 35), S12))))
  else (bnd (F_X8_layBest S7 a1) (fun r16 S17 =>
  if 0 ≤ (gI S17 8 0 35) then (some ((gI S17 8 0 35) - (999 : Int32), S17))
  else (some ((999 : Int32) - (999 : Int32), S17)))))))
set_option maxRecDepth 10000 in
theorem c_X8_worth (l : Launch) {D : va_G} {cy : Nat → ClassId} {ad : Nat → Nat → Nat} (hJ : wJ ad nM) (S : St) (a1 : Int32) : CT l yX8_worth cX8_worth 3 (some .int) 8 D cy ad nM toI okT [.ref (ad 8 0), .int a1] S (F_X8_worth S a1) := by
  refine CT.of RX8 (by decide) rfl hJ (Nat.le_of_ble_eq_true rfl) rfl ?_
  intro p e s m below meth c cx
  unfold F_X8_worth
  refine G_aload_n (q := 1) cx dX8_worth_0 rfl rfl ?_
  refine G_iload_n (q := 2) cx dX8_worth_1 rfl rfl ?_
  refine G_callV (q := 5) (d' := 1) (f := 8) (i := 0) (As := [.int a1]) (rest := []) (stk := fun r1 => [.int r1]) cx dX8_worth_2 rfl cf_8 (Nat.le_of_ble_eq_true rfl) ml_RX8_235 rfl rfl (Nat.le_of_ble_eq_true rfl) (Nat.le_of_ble_eq_true rfl) (Nat.le_of_ble_eq_true rfl) (c_X8_isLift l hJ  _ a1) (fun _ => rfl) (fun r1 S2 h3 o4 => ?_)
  refine G_if_ne (q := 8) (t := 10) cx dX8_worth_5 rfl (by decide) (fun c5 => ?_) (fun c5 => ?_)
  · refine G_aload_n (q := 11) cx dX8_worth_10 rfl rfl ?_
    refine G_iconst (q := 12) (v := (-1 : Int32)) cx dX8_worth_11 rfl (by decide) ?_
    refine G_callV (q := 15) (d' := 7) (f := 8) (i := 0) (As := [.int (-1 : Int32)]) (rest := []) (stk := fun _ => []) cx dX8_worth_12 rfl cf_8 (Nat.le_of_ble_eq_true rfl) ml_RX8_358 rfl rfl (Nat.le_of_ble_eq_true rfl) (Nat.le_of_ble_eq_true rfl) (Nat.le_of_ble_eq_true rfl) (c_X8_layBest l hJ  _ (-1 : Int32)) (fun _ => rfl) (fun r6 S7 h8 o9 => ?_)
    refine G_aload_n (q := 16) cx dX8_worth_15 rfl rfl ?_
    refine G_geti (q := 19) cx dX8_worth_16 rfl cf_8 fl_RX8_117 (Nat.le_of_ble_eq_true rfl) rfl (Nat.le_of_ble_eq_true rfl) ?_
    refine G_if_ge (q := 22) (t := 28) cx dX8_worth_19 rfl (by decide) (fun c10 => ?_) (fun c10 => ?_)
    · refine G_aload_n (q := 29) cx dX8_worth_28 rfl rfl ?_
      refine G_geti (q := 32) cx dX8_worth_29 rfl cf_8 fl_RX8_117 (Nat.le_of_ble_eq_true rfl) rfl (Nat.le_of_ble_eq_true rfl) ?_
      refine G_istore_n (q := 33) (ls' := [(2, .int (gI S7 8 0 35)), (0, .ref (ad 8 0)), (1, .int a1)]) cx dX8_worth_32 rfl rfl (Nat.le_of_ble_eq_true rfl) rfl ?_
      refine G_aload_n (q := 34) cx dX8_worth_33 rfl rfl ?_
      refine G_iload_n (q := 35) cx dX8_worth_34 rfl rfl ?_
      refine G_callV (q := 38) (d' := 7) (f := 8) (i := 0) (As := [.int a1]) (rest := []) (stk := fun _ => []) cx dX8_worth_35 rfl cf_8 (Nat.le_of_ble_eq_true rfl) ml_RX8_358 rfl rfl (Nat.le_of_ble_eq_true rfl) (Nat.le_of_ble_eq_true rfl) (Nat.le_of_ble_eq_true rfl) (c_X8_layBest l hJ  _ a1) (fun _ => rfl) (fun r11 S12 h13 o14 => ?_)
      refine G_aload_n (q := 39) cx dX8_worth_38 rfl rfl ?_
      refine G_geti (q := 42) cx dX8_worth_39 rfl cf_8 fl_RX8_117 (Nat.le_of_ble_eq_true rfl) rfl (Nat.le_of_ble_eq_true rfl) ?_
      refine G_if_ge (q := 45) (t := 51) cx dX8_worth_42 rfl (by decide) (fun c15 => ?_) (fun c15 => ?_)
      · refine G_aload_n (q := 52) cx dX8_worth_51 rfl rfl ?_
        refine G_geti (q := 55) cx dX8_worth_52 rfl cf_8 fl_RX8_117 (Nat.le_of_ble_eq_true rfl) rfl (Nat.le_of_ble_eq_true rfl) ?_
        refine G_iload_n (q := 56) cx dX8_worth_55 rfl rfl ?_
        refine G_isub (q := 57) cx dX8_worth_56 rfl ?_
        exact G_iret cx rfl dX8_worth_57 trivial
      refine G_sipush (q := 48) (v := (999 : Int32)) cx dX8_worth_45 rfl (by decide) ?_
      refine G_goto (t := 55) cx dX8_worth_48 (by decide) ?_
      refine G_iload_n (q := 56) cx dX8_worth_55 rfl rfl ?_
      refine G_isub (q := 57) cx dX8_worth_56 rfl ?_
      exact G_iret cx rfl dX8_worth_57 trivial
    refine G_sipush (q := 25) (v := (999 : Int32)) cx dX8_worth_22 rfl (by decide) ?_
    refine G_goto (t := 32) cx dX8_worth_25 (by decide) ?_
    refine G_istore_n (q := 33) (ls' := [(2, .int (999 : Int32)), (0, .ref (ad 8 0)), (1, .int a1)]) cx dX8_worth_32 rfl rfl (Nat.le_of_ble_eq_true rfl) rfl ?_
    refine G_aload_n (q := 34) cx dX8_worth_33 rfl rfl ?_
    refine G_iload_n (q := 35) cx dX8_worth_34 rfl rfl ?_
    refine G_callV (q := 38) (d' := 7) (f := 8) (i := 0) (As := [.int a1]) (rest := []) (stk := fun _ => []) cx dX8_worth_35 rfl cf_8 (Nat.le_of_ble_eq_true rfl) ml_RX8_358 rfl rfl (Nat.le_of_ble_eq_true rfl) (Nat.le_of_ble_eq_true rfl) (Nat.le_of_ble_eq_true rfl) (c_X8_layBest l hJ  _ a1) (fun _ => rfl) (fun r16 S17 h18 o19 => ?_)
    refine G_aload_n (q := 39) cx dX8_worth_38 rfl rfl ?_
    refine G_geti (q := 42) cx dX8_worth_39 rfl cf_8 fl_RX8_117 (Nat.le_of_ble_eq_true rfl) rfl (Nat.le_of_ble_eq_true rfl) ?_
    refine G_if_ge (q := 45) (t := 51) cx dX8_worth_42 rfl (by decide) (fun c20 => ?_) (fun c20 => ?_)
    · refine G_aload_n (q := 52) cx dX8_worth_51 rfl rfl ?_
      refine G_geti (q := 55) cx dX8_worth_52 rfl cf_8 fl_RX8_117 (Nat.le_of_ble_eq_true rfl) rfl (Nat.le_of_ble_eq_true rfl) ?_
      refine G_iload_n (q := 56) cx dX8_worth_55 rfl rfl ?_
      refine G_isub (q := 57) cx dX8_worth_56 rfl ?_
      exact G_iret cx rfl dX8_worth_57 trivial
    refine G_sipush (q := 48) (v := (999 : Int32)) cx dX8_worth_45 rfl (by decide) ?_
    refine G_goto (t := 55) cx dX8_worth_48 (by decide) ?_
    refine G_iload_n (q := 56) cx dX8_worth_55 rfl rfl ?_
    refine G_isub (q := 57) cx dX8_worth_56 rfl ?_
    exact G_iret cx rfl dX8_worth_57 trivial
  · refine G_iconst (q := 9) (v := (-1 : Int32)) cx dX8_worth_8 rfl (by decide) ?_
    exact G_iret cx rfl dX8_worth_9 trivial
def F_X8_leg (S : St) (a1 : Int32) (a2 : Int32) : Option (Int32 × St) :=
  if a1 = (-1 : Int32) then (some ((0 : Int32), (sI S 8 0 36 (0 : Int32))))
  else (bnd (F_X8_isLift S a1) (fun r2 S3 =>
  if r2 = 0 then (some ((-1 : Int32), S3))
  else (bnd (F_X8_isTime S3 a2) (fun r7 S8 =>
  if r7 = 0 then (some ((-2 : Int32), S8))
  else (if (gI S8 8 0 36) = (4 : Int32) then (some ((-4 : Int32), S8))
  else (if 0 ≤ (gI S8 8 0 36) ∧ (gI S8 8 0 36).toNatClampNeg < 4 then (if 0 ≤ (gI (sI S8 37 0 (gI S8 8 0 36).toNatClampNeg a1) 8 0 36) ∧ (gI (sI S8 37 0 (gI S8 8 0 36).toNatClampNeg a1) 8 0 36).toNatClampNeg < 4 then (some (gI (sI (sI (sI S8 37 0 (gI S8 8 0 36).toNatClampNeg a1) 38 0 (gI (sI S8 37 0 (gI S8 8 0 36).toNatClampNeg a1) 8 0 36).toNatClampNeg a2) 8 0 36 ((gI (sI (sI S8 37 0 (gI S8 8 0 36).toNatClampNeg a1) 38 0 (gI (sI S8 37 0 (gI S8 8 0 36).toNatClampNeg a1) 8 0 36).toNatClampNeg a2) 8 0 36) + (1 : Int32))) 8 0 36, (sI (sI (sI S8 37 0 (gI S8 8 0 36).toNatClampNeg a1) 38 0 (gI (sI S8 37 0 (gI S8 8 0 36).toNatClampNeg a1) 8 0 36).toNatClampNeg a2) 8 0 36 ((gI (sI (sI S8 37 0 (gI S8 8 0 36).toNatClampNeg a1) 38 0 (gI (sI S8 37 0 (gI S8 8 0 36).toNatClampNeg a1) 8 0 36).toNatClampNeg a2) 8 0 36) + (1 : Int32)))))
  else none)
  else none))))))
set_option maxRecDepth 10000 in
theorem c_X8_leg (l : Launch) {D : va_G} {cy : Nat → ClassId} {ad : Nat → Nat → Nat} (hJ : wJ ad nM) (S : St) (a1 : Int32) (a2 : Int32) : CT l yX8_leg cX8_leg 3 (some .int) 2 D cy ad nM toI okT [.ref (ad 8 0), .int a1, .int a2] S (F_X8_leg S a1 a2) := by
  refine CT.of RX8 (by decide) rfl hJ (Nat.le_of_ble_eq_true rfl) rfl ?_
  intro p e s m below meth c cx
  unfold F_X8_leg
  refine G_iload_n (q := 1) cx dX8_leg_0 rfl rfl ?_
  refine G_iconst (q := 2) (v := (-1 : Int32)) cx dX8_leg_1 rfl (by decide) ?_
  refine G_icmp_ne (q := 5) (t := 12) cx dX8_leg_2 rfl (by decide) (fun c1 => ?_) (fun c1 => ?_)
  · refine G_aload_n (q := 13) cx dX8_leg_12 rfl rfl ?_
    refine G_iload_n (q := 14) cx dX8_leg_13 rfl rfl ?_
    refine G_callV (q := 17) (d' := 1) (f := 8) (i := 0) (As := [.int a1]) (rest := []) (stk := fun r2 => [.int r2]) cx dX8_leg_14 rfl cf_8 (Nat.le_of_ble_eq_true rfl) ml_RX8_235 rfl rfl (Nat.le_of_ble_eq_true rfl) (Nat.le_of_ble_eq_true rfl) (Nat.le_of_ble_eq_true rfl) (c_X8_isLift l hJ  _ a1) (fun _ => rfl) (fun r2 S3 h4 o5 => ?_)
    refine G_if_ne (q := 20) (t := 22) cx dX8_leg_17 rfl (by decide) (fun c6 => ?_) (fun c6 => ?_)
    · refine G_aload_n (q := 23) cx dX8_leg_22 rfl rfl ?_
      refine G_iload_n (q := 24) cx dX8_leg_23 rfl rfl ?_
      refine G_callV (q := 27) (d' := 1) (f := 8) (i := 0) (As := [.int a2]) (rest := []) (stk := fun r7 => [.int r7]) cx dX8_leg_24 rfl cf_8 (Nat.le_of_ble_eq_true rfl) ml_RX8_320 rfl rfl (Nat.le_of_ble_eq_true rfl) (Nat.le_of_ble_eq_true rfl) (Nat.le_of_ble_eq_true rfl) (c_X8_isTime l hJ  _ a2) (fun _ => rfl) (fun r7 S8 h9 o10 => ?_)
      refine G_if_ne (q := 30) (t := 33) cx dX8_leg_27 rfl (by decide) (fun c11 => ?_) (fun c11 => ?_)
      · refine G_aload_n (q := 34) cx dX8_leg_33 rfl rfl ?_
        refine G_geti (q := 37) cx dX8_leg_34 rfl cf_8 fl_RX8_120 (Nat.le_of_ble_eq_true rfl) rfl (Nat.le_of_ble_eq_true rfl) ?_
        refine G_iconst (q := 38) (v := (4 : Int32)) cx dX8_leg_37 rfl (by decide) ?_
        refine G_icmp_ne (q := 41) (t := 44) cx dX8_leg_38 rfl (by decide) (fun c12 => ?_) (fun c12 => ?_)
        · refine G_aload_n (q := 45) cx dX8_leg_44 rfl rfl ?_
          refine G_getr (q := 48) (g := 37) (i' := 0) cx dX8_leg_45 rfl cf_8 fl_RX8_123 (Nat.le_of_ble_eq_true rfl) rfl rfl (Nat.le_of_ble_eq_true rfl) ?_
          refine G_aload_n (q := 49) cx dX8_leg_48 rfl rfl ?_
          refine G_geti (q := 52) cx dX8_leg_49 rfl cf_8 fl_RX8_120 (Nat.le_of_ble_eq_true rfl) rfl (Nat.le_of_ble_eq_true rfl) ?_
          refine G_iload_n (q := 53) cx dX8_leg_52 rfl rfl ?_
          refine G_iast (q := 54) cx dX8_leg_53 rfl (by decide) rfl rfl (Nat.le_of_ble_eq_true rfl) (fun g13 g14 => ?_)
          refine G_aload_n (q := 55) cx dX8_leg_54 rfl rfl ?_
          refine G_getr (q := 58) (g := 38) (i' := 0) cx dX8_leg_55 rfl cf_8 fl_RX8_126 (Nat.le_of_ble_eq_true rfl) rfl rfl (Nat.le_of_ble_eq_true rfl) ?_
          refine G_aload_n (q := 59) cx dX8_leg_58 rfl rfl ?_
          refine G_geti (q := 62) cx dX8_leg_59 rfl cf_8 fl_RX8_120 (Nat.le_of_ble_eq_true rfl) rfl (Nat.le_of_ble_eq_true rfl) ?_
          refine G_iload_n (q := 63) cx dX8_leg_62 rfl rfl ?_
          refine G_iast (q := 64) cx dX8_leg_63 rfl (by decide) rfl rfl (Nat.le_of_ble_eq_true rfl) (fun g15 g16 => ?_)
          refine G_aload_n (q := 65) cx dX8_leg_64 rfl rfl ?_
          refine G_dup (q := 66) cx dX8_leg_65 rfl rfl ?_
          refine G_geti (q := 69) cx dX8_leg_66 rfl cf_8 fl_RX8_120 (Nat.le_of_ble_eq_true rfl) rfl (Nat.le_of_ble_eq_true rfl) ?_
          refine G_iconst (q := 70) (v := (1 : Int32)) cx dX8_leg_69 rfl (by decide) ?_
          refine G_iadd (q := 71) cx dX8_leg_70 rfl ?_
          refine G_puti (q := 74) cx dX8_leg_71 rfl cf_8 fl_RX8_120 (Nat.le_of_ble_eq_true rfl) rfl rfl rfl rfl rfl (Nat.le_of_ble_eq_true rfl) ?_
          refine G_aload_n (q := 75) cx dX8_leg_74 rfl rfl ?_
          refine G_geti (q := 78) cx dX8_leg_75 rfl cf_8 fl_RX8_120 (Nat.le_of_ble_eq_true rfl) rfl (Nat.le_of_ble_eq_true rfl) ?_
          exact G_iret cx rfl dX8_leg_78 trivial
        · refine G_bipush (q := 43) (v := (-4 : Int32)) cx dX8_leg_41 rfl (by decide) ?_
          exact G_iret cx rfl dX8_leg_43 trivial
      · refine G_bipush (q := 32) (v := (-2 : Int32)) cx dX8_leg_30 rfl (by decide) ?_
        exact G_iret cx rfl dX8_leg_32 trivial
    · refine G_iconst (q := 21) (v := (-1 : Int32)) cx dX8_leg_20 rfl (by decide) ?_
      exact G_iret cx rfl dX8_leg_21 trivial
  refine G_aload_n (q := 6) cx dX8_leg_5 rfl rfl ?_
  refine G_iconst (q := 7) (v := (0 : Int32)) cx dX8_leg_6 rfl (by decide) ?_
  refine G_puti (q := 10) cx dX8_leg_7 rfl cf_8 fl_RX8_120 (Nat.le_of_ble_eq_true rfl) rfl rfl rfl rfl rfl (Nat.le_of_ble_eq_true rfl) ?_
  refine G_iconst (q := 11) (v := (0 : Int32)) cx dX8_leg_10 rfl (by decide) ?_
  exact G_iret cx rfl dX8_leg_11 trivial
def L_X8_flown_66 (x4_15 : Int32) (r55 : Int32) (K_59 : Int32 → St → Option (Int32 × St)) : Nat → Int32 → St → Option (Int32 × St)
  | 0, _, _ => none
  | n + 1, x5_59, S_59 =>
    if 0 ≤ x4_15 ∧ x4_15.toNatClampNeg < 4 then (if (gI S_59 38 0 x4_15.toNatClampNeg) ≤ x5_59 then (K_59 x5_59 S_59)
    else (if r55 = 0 then (K_59 x5_59 S_59)
    else (if 0 ≤ x4_15 ∧ x4_15.toNatClampNeg < 4 then (bnd (F_X8_goMinute S_59 (gI S_59 37 0 x4_15.toNatClampNeg)) (fun r66 S67 =>
    L_X8_flown_66 x4_15 r55 K_59 n (x5_59 + 1) S67))
    else none)))
    else none
def L_X8_flown_32 (a1 : Int32) (K_15 : Int32 → Int32 → St → Option (Int32 × St)) : Nat → Int32 → Int32 → St → Option (Int32 × St)
  | 0, _, _, _ => none
  | n + 1, x3_15, x4_15, S_15 =>
    if (gI S_15 8 0 36) ≤ x4_15 then (K_15 x3_15 x4_15 S_15)
    else (if x3_15 = 0 then (K_15 x3_15 x4_15 S_15)
    else (if 0 ≤ x4_15 ∧ x4_15.toNatClampNeg < 4 then (if 0 ≤ (gI S_15 37 0 x4_15.toNatClampNeg) ∧ (gI S_15 37 0 x4_15.toNatClampNeg).toNatClampNeg < 6 then (bnd (F_X8_goGlide S_15 (gI S_15 24 0 (gI S_15 37 0 x4_15.toNatClampNeg).toNatClampNeg) a1) (fun r55 S56 =>
    L_X8_flown_66 x4_15 r55 
    (fun y5_59 T_59 => L_X8_flown_32 a1 K_15 n r55 (x4_15 + 1) T_59) 1000 (0 : Int32) S56))
    else none)
    else none))
def F_X8_flown (S : St) (a1 : Int32) (a2 : Int32) : Option (Int32 × St) :=
  bnd (F_X8_in S a2 (0 : Int32) (1 : Int32)) (fun r1 S2 =>
  if r1 = 0 then (some ((-1 : Int32), S2))
  else (bnd (F_X8_isPace S2 a1) (fun r6 S7 =>
  if r6 = 0 then (some ((-2 : Int32), S7))
  else (bnd (F_X8_save S7) (fun r11 S12 =>
  L_X8_flown_32 a1 
  (fun y3_15 y4_15 T_15 => if y3_15 = 0 then (if a2 = 0 then (bnd (F_X8_putBack T_15) (fun r22 S23 =>
  some ((-5 : Int32), S23)))
  else (bnd (F_X8_putBack T_15) (fun r18 S19 =>
  some ((-5 : Int32), S19))))
  else (bnd (F_X8_goGlide T_15 (gI T_15 8 0 5) a1) (fun r26 S27 =>
  if r26 = 0 then (if a2 = 0 then (bnd (F_X8_putBack S27) (fun r36 S37 =>
  some ((-5 : Int32), S37)))
  else (bnd (F_X8_putBack S27) (fun r32 S33 =>
  some ((-5 : Int32), S33))))
  else (if a2 = 0 then (bnd (F_X8_putBack S27) (fun r45 S46 =>
  some (gI S27 8 0 3, S46)))
  else (bnd (F_X8_putBack S27) (fun r41 S42 =>
  some ((gI S27 8 0 1) - (gI S27 8 0 29), S42))))))) 1000 (1 : Int32) (0 : Int32) S12)))))
set_option maxRecDepth 10000 in
theorem c_X8_flown (l : Launch) {D : va_G} {cy : Nat → ClassId} {ad : Nat → Nat → Nat} (hJ : wJ ad nM) (S : St) (a1 : Int32) (a2 : Int32) : CT l yX8_flown cX8_flown 6 (some .int) 5 D cy ad nM toI okT [.ref (ad 8 0), .int a1, .int a2] S (F_X8_flown S a1 a2) := by
  refine CT.of RX8 (by decide) rfl hJ (Nat.le_of_ble_eq_true rfl) rfl ?_
  intro p e s m below meth c cx
  unfold F_X8_flown
  refine G_aload_n (q := 1) cx dX8_flown_0 rfl rfl ?_
  refine G_iload_n (q := 2) cx dX8_flown_1 rfl rfl ?_
  refine G_iconst (q := 3) (v := (0 : Int32)) cx dX8_flown_2 rfl (by decide) ?_
  refine G_iconst (q := 4) (v := (1 : Int32)) cx dX8_flown_3 rfl (by decide) ?_
  refine G_callV (q := 7) (d' := 0) (f := 8) (i := 0) (As := [.int a2, .int (0 : Int32), .int (1 : Int32)]) (rest := []) (stk := fun r1 => [.int r1]) cx dX8_flown_4 rfl cf_8 (Nat.le_of_ble_eq_true rfl) ml_RX8_227 rfl rfl (Nat.le_of_ble_eq_true rfl) (Nat.le_of_ble_eq_true rfl) (Nat.le_of_ble_eq_true rfl) (c_X8_in l hJ  _ a2 (0 : Int32) (1 : Int32)) (fun _ => rfl) (fun r1 S2 h3 o4 => ?_)
  refine G_if_ne (q := 10) (t := 12) cx dX8_flown_7 rfl (by decide) (fun c5 => ?_) (fun c5 => ?_)
  · refine G_aload_n (q := 13) cx dX8_flown_12 rfl rfl ?_
    refine G_iload_n (q := 14) cx dX8_flown_13 rfl rfl ?_
    refine G_callV (q := 17) (d' := 1) (f := 8) (i := 0) (As := [.int a1]) (rest := []) (stk := fun r6 => [.int r6]) cx dX8_flown_14 rfl cf_8 (Nat.le_of_ble_eq_true rfl) ml_RX8_326 rfl rfl (Nat.le_of_ble_eq_true rfl) (Nat.le_of_ble_eq_true rfl) (Nat.le_of_ble_eq_true rfl) (c_X8_isPace l hJ  _ a1) (fun _ => rfl) (fun r6 S7 h8 o9 => ?_)
    refine G_if_ne (q := 20) (t := 23) cx dX8_flown_17 rfl (by decide) (fun c10 => ?_) (fun c10 => ?_)
    · refine G_aload_n (q := 24) cx dX8_flown_23 rfl rfl ?_
      refine G_callV (q := 27) (d' := 0) (f := 8) (i := 0) (As := []) (rest := []) (stk := fun _ => []) cx dX8_flown_24 rfl cf_8 (Nat.le_of_ble_eq_true rfl) ml_RX8_332 rfl rfl (Nat.le_of_ble_eq_true rfl) (Nat.le_of_ble_eq_true rfl) (Nat.le_of_ble_eq_true rfl) (c_X8_save l hJ  _) (fun _ => rfl) (fun r11 S12 h13 o14 => ?_)
      refine G_iconst (q := 28) (v := (1 : Int32)) cx dX8_flown_27 rfl (by decide) ?_
      refine G_istore_n (q := 29) (ls' := [(3, .int (1 : Int32)), (0, .ref (ad 8 0)), (1, .int a1), (2, .int a2)]) cx dX8_flown_28 rfl rfl (Nat.le_of_ble_eq_true rfl) rfl ?_
      refine G_iconst (q := 30) (v := (0 : Int32)) cx dX8_flown_29 rfl (by decide) ?_
      refine G_istore (q := 32) (ls' := [(4, .int (0 : Int32)), (3, .int (1 : Int32)), (0, .ref (ad 8 0)), (1, .int a1), (2, .int a2)]) cx dX8_flown_30 rfl (Nat.le_of_ble_eq_true rfl) rfl ?_
      have lp_15 : ∀ (K_15 : Int32 → Int32 → St → Option (Int32 × St)) (hK_15 : ∀ (y3_15 : Int32) (y4_15 : Int32) (T_15 : St), TG p l e 5 s m ([.ref (ad 8 0), .int a1, .int a2] : List Value).toArray below meth c D cy ad nM toI okT T_15 105 [(3, .int y3_15), (4, .int y4_15), (0, .ref (ad 8 0)), (1, .int a1), (2, .int a2)] [] (K_15 y3_15 y4_15 T_15)), ∀ (n_15 : Nat) (x3_15 : Int32) (x4_15 : Int32) (S_15 : St), TG p l e 5 s m ([.ref (ad 8 0), .int a1, .int a2] : List Value).toArray below meth c D cy ad nM toI okT S_15 32 [(3, .int x3_15), (4, .int x4_15), (0, .ref (ad 8 0)), (1, .int a1), (2, .int a2)] [] (L_X8_flown_32 a1 K_15 n_15 x3_15 x4_15 S_15) := by
        intro K_15 hK_15 n_15
        induction n_15 with
        | zero => intros; exact G_none
        | succ n_15 ih_15 =>
          intro x3_15 x4_15 S_15
          rw [L_X8_flown_32.eq_2]
          refine G_iload (q := 34) cx dX8_flown_32 rfl rfl ?_
          refine G_aload_n (q := 35) cx dX8_flown_34 rfl rfl ?_
          refine G_geti (q := 38) cx dX8_flown_35 rfl cf_8 fl_RX8_120 (Nat.le_of_ble_eq_true rfl) rfl (Nat.le_of_ble_eq_true rfl) ?_
          refine G_icmp_ge (q := 41) (t := 105) cx dX8_flown_38 rfl (by decide) (fun c49 => ?_) (fun c49 => ?_)
          · exact G_loc [0, 1, 2, 3, 4] rfl (hK_15 x3_15 x4_15 S_15)
          refine G_iload_n (q := 42) cx dX8_flown_41 rfl rfl ?_
          refine G_if_eq (q := 45) (t := 105) cx dX8_flown_42 rfl (by decide) (fun c50 => ?_) (fun c50 => ?_)
          · exact G_loc [0, 1, 2, 3, 4] rfl (hK_15 x3_15 x4_15 S_15)
          refine G_aload_n (q := 46) cx dX8_flown_45 rfl rfl ?_
          refine G_aload_n (q := 47) cx dX8_flown_46 rfl rfl ?_
          refine G_getr (q := 50) (g := 24) (i' := 0) cx dX8_flown_47 rfl cf_8 fl_RX8_35 (Nat.le_of_ble_eq_true rfl) rfl rfl (Nat.le_of_ble_eq_true rfl) ?_
          refine G_aload_n (q := 51) cx dX8_flown_50 rfl rfl ?_
          refine G_getr (q := 54) (g := 37) (i' := 0) cx dX8_flown_51 rfl cf_8 fl_RX8_123 (Nat.le_of_ble_eq_true rfl) rfl rfl (Nat.le_of_ble_eq_true rfl) ?_
          refine G_iload (q := 56) cx dX8_flown_54 rfl rfl ?_
          refine G_iald (q := 57) cx dX8_flown_56 rfl (by decide) rfl rfl (Nat.le_of_ble_eq_true rfl) (fun g51 g52 => ?_)
          refine G_iald (q := 58) cx dX8_flown_57 rfl (by decide) rfl rfl (Nat.le_of_ble_eq_true rfl) (fun g53 g54 => ?_)
          refine G_iload_n (q := 59) cx dX8_flown_58 rfl rfl ?_
          refine G_callV (q := 62) (d' := 2) (f := 8) (i := 0) (As := [.int (gI S_15 24 0 (gI S_15 37 0 x4_15.toNatClampNeg).toNatClampNeg), .int a1]) (rest := []) (stk := fun r55 => [.int r55]) cx dX8_flown_59 rfl cf_8 (Nat.le_of_ble_eq_true rfl) ml_RX8_329 rfl rfl (Nat.le_of_ble_eq_true rfl) (Nat.le_of_ble_eq_true rfl) (Nat.le_of_ble_eq_true rfl) (c_X8_goGlide l hJ  _ (gI S_15 24 0 (gI S_15 37 0 x4_15.toNatClampNeg).toNatClampNeg) a1) (fun _ => rfl) (fun r55 S56 h57 o58 => ?_)
          refine G_istore_n (q := 63) (ls' := [(3, .int r55), (4, .int x4_15), (0, .ref (ad 8 0)), (1, .int a1), (2, .int a2)]) cx dX8_flown_62 rfl rfl (Nat.le_of_ble_eq_true rfl) rfl ?_
          refine G_iconst (q := 64) (v := (0 : Int32)) cx dX8_flown_63 rfl (by decide) ?_
          refine G_istore (q := 66) (ls' := [(5, .int (0 : Int32)), (3, .int r55), (4, .int x4_15), (0, .ref (ad 8 0)), (1, .int a1), (2, .int a2)]) cx dX8_flown_64 rfl (Nat.le_of_ble_eq_true rfl) rfl ?_
          have lp_59 : ∀ (K_59 : Int32 → St → Option (Int32 × St)) (hK_59 : ∀ (y5_59 : Int32) (T_59 : St), TG p l e 5 s m ([.ref (ad 8 0), .int a1, .int a2] : List Value).toArray below meth c D cy ad nM toI okT T_59 99 [(5, .int y5_59), (3, .int r55), (4, .int x4_15), (0, .ref (ad 8 0)), (1, .int a1), (2, .int a2)] [] (K_59 y5_59 T_59)), ∀ (n_59 : Nat) (x5_59 : Int32) (S_59 : St), TG p l e 5 s m ([.ref (ad 8 0), .int a1, .int a2] : List Value).toArray below meth c D cy ad nM toI okT S_59 66 [(5, .int x5_59), (3, .int r55), (4, .int x4_15), (0, .ref (ad 8 0)), (1, .int a1), (2, .int a2)] [] (L_X8_flown_66 x4_15 r55 K_59 n_59 x5_59 S_59) := by
            intro K_59 hK_59 n_59
            induction n_59 with
            | zero => intros; exact G_none
            | succ n_59 ih_59 =>
              intro x5_59 S_59
              rw [L_X8_flown_66.eq_2]
              refine G_iload (q := 68) cx dX8_flown_66 rfl rfl ?_
              refine G_aload_n (q := 69) cx dX8_flown_68 rfl rfl ?_
              refine G_getr (q := 72) (g := 38) (i' := 0) cx dX8_flown_69 rfl cf_8 fl_RX8_126 (Nat.le_of_ble_eq_true rfl) rfl rfl (Nat.le_of_ble_eq_true rfl) ?_
              refine G_iload (q := 74) cx dX8_flown_72 rfl rfl ?_
              refine G_iald (q := 75) cx dX8_flown_74 rfl (by decide) rfl rfl (Nat.le_of_ble_eq_true rfl) (fun g60 g61 => ?_)
              refine G_icmp_ge (q := 78) (t := 99) cx dX8_flown_75 rfl (by decide) (fun c62 => ?_) (fun c62 => ?_)
              · exact G_loc [0, 1, 2, 3, 4, 5] rfl (hK_59 x5_59 S_59)
              refine G_iload_n (q := 79) cx dX8_flown_78 rfl rfl ?_
              refine G_if_eq (q := 82) (t := 99) cx dX8_flown_79 rfl (by decide) (fun c63 => ?_) (fun c63 => ?_)
              · exact G_loc [0, 1, 2, 3, 4, 5] rfl (hK_59 x5_59 S_59)
              refine G_aload_n (q := 83) cx dX8_flown_82 rfl rfl ?_
              refine G_aload_n (q := 84) cx dX8_flown_83 rfl rfl ?_
              refine G_getr (q := 87) (g := 37) (i' := 0) cx dX8_flown_84 rfl cf_8 fl_RX8_123 (Nat.le_of_ble_eq_true rfl) rfl rfl (Nat.le_of_ble_eq_true rfl) ?_
              refine G_iload (q := 89) cx dX8_flown_87 rfl rfl ?_
              refine G_iald (q := 90) cx dX8_flown_89 rfl (by decide) rfl rfl (Nat.le_of_ble_eq_true rfl) (fun g64 g65 => ?_)
              refine G_callV (q := 93) (d' := 4) (f := 8) (i := 0) (As := [.int (gI S_59 37 0 x4_15.toNatClampNeg)]) (rest := []) (stk := fun _ => []) cx dX8_flown_90 rfl cf_8 (Nat.le_of_ble_eq_true rfl) ml_RX8_323 rfl rfl (Nat.le_of_ble_eq_true rfl) (Nat.le_of_ble_eq_true rfl) (Nat.le_of_ble_eq_true rfl) (c_X8_goMinute l hJ  _ (gI S_59 37 0 x4_15.toNatClampNeg)) (fun _ => rfl) (fun r66 S67 h68 o69 => ?_)
              refine G_iinc (q := 96) (j := 0) (v := x5_59 + 1) (ls' := [(5, .int (x5_59 + 1)), (3, .int r55), (4, .int x4_15), (0, .ref (ad 8 0)), (1, .int a1), (2, .int a2)]) cx dX8_flown_93 rfl rfl rfl (Nat.le_of_ble_eq_true rfl) rfl ?_
              refine G_goto (t := 66) cx dX8_flown_96 (by decide) ?_
              exact G_loc [0, 1, 2, 3, 4, 5] rfl (ih_59 (x5_59 + 1) S67)
          refine G_loc [0, 1, 2, 3, 4, 5] rfl (lp_59 _ (fun y5_59 T_59 => ?_) 1000 (0 : Int32) S56)
          refine G_iinc (q := 102) (j := 2) (v := x4_15 + 1) (ls' := [(4, .int (x4_15 + 1)), (5, .int y5_59), (3, .int r55), (0, .ref (ad 8 0)), (1, .int a1), (2, .int a2)]) cx dX8_flown_99 rfl rfl rfl (Nat.le_of_ble_eq_true rfl) rfl ?_
          refine G_goto (t := 32) cx dX8_flown_102 (by decide) ?_
          exact G_loc [2, 0, 3, 4, 5] rfl (ih_15 r55 (x4_15 + 1) T_59)
      refine G_loc [1, 0, 2, 3, 4] rfl (lp_15 _ (fun y3_15 y4_15 T_15 => ?_) 1000 (1 : Int32) (0 : Int32) S12)
      refine G_iload_n (q := 106) cx dX8_flown_105 rfl rfl ?_
      refine G_if_eq (q := 109) (t := 125) cx dX8_flown_106 rfl (by decide) (fun c16 => ?_) (fun c16 => ?_)
      · refine G_iconst (q := 126) (v := (0 : Int32)) cx dX8_flown_125 rfl (by decide) ?_
        refine G_istore_n (q := 127) (ls' := [(3, .int (0 : Int32)), (4, .int y4_15), (0, .ref (ad 8 0)), (1, .int a1), (2, .int a2)]) cx dX8_flown_126 rfl rfl (Nat.le_of_ble_eq_true rfl) rfl ?_
        refine G_iload_n (q := 128) cx dX8_flown_127 rfl rfl ?_
        refine G_if_ne (q := 131) (t := 138) cx dX8_flown_128 rfl (by decide) (fun c17 => ?_) (fun c17 => ?_)
        · refine G_aload_n (q := 139) cx dX8_flown_138 rfl rfl ?_
          refine G_geti (q := 142) cx dX8_flown_139 rfl cf_8 fl_RX8_13 (Nat.le_of_ble_eq_true rfl) rfl (Nat.le_of_ble_eq_true rfl) ?_
          refine G_aload_n (q := 143) cx dX8_flown_142 rfl rfl ?_
          refine G_geti (q := 146) cx dX8_flown_143 rfl cf_8 fl_RX8_99 (Nat.le_of_ble_eq_true rfl) rfl (Nat.le_of_ble_eq_true rfl) ?_
          refine G_isub (q := 147) cx dX8_flown_146 rfl ?_
          refine G_istore (q := 149) (ls' := [(4, .int ((gI T_15 8 0 1) - (gI T_15 8 0 29))), (3, .int (0 : Int32)), (0, .ref (ad 8 0)), (1, .int a1), (2, .int a2)]) cx dX8_flown_147 rfl (Nat.le_of_ble_eq_true rfl) rfl ?_
          refine G_aload_n (q := 150) cx dX8_flown_149 rfl rfl ?_
          refine G_callV (q := 153) (d' := 0) (f := 8) (i := 0) (As := []) (rest := []) (stk := fun _ => []) cx dX8_flown_150 rfl cf_8 (Nat.le_of_ble_eq_true rfl) ml_RX8_335 rfl rfl (Nat.le_of_ble_eq_true rfl) (Nat.le_of_ble_eq_true rfl) (Nat.le_of_ble_eq_true rfl) (c_X8_putBack l hJ  _) (fun _ => rfl) (fun r18 S19 h20 o21 => ?_)
          refine G_iload_n (q := 154) cx dX8_flown_153 rfl rfl ?_
          refine G_if_eq_y (q := 157) (t := 162) cx dX8_flown_154 rfl (by decide) (by decide) ?_
          refine G_bipush (q := 164) (v := (-5 : Int32)) cx dX8_flown_162 rfl (by decide) ?_
          exact G_iret cx rfl dX8_flown_164 trivial
        refine G_aload_n (q := 132) cx dX8_flown_131 rfl rfl ?_
        refine G_geti (q := 135) cx dX8_flown_132 rfl cf_8 fl_RX8_19 (Nat.le_of_ble_eq_true rfl) rfl (Nat.le_of_ble_eq_true rfl) ?_
        refine G_goto (t := 147) cx dX8_flown_135 (by decide) ?_
        refine G_istore (q := 149) (ls' := [(4, .int (gI T_15 8 0 3)), (3, .int (0 : Int32)), (0, .ref (ad 8 0)), (1, .int a1), (2, .int a2)]) cx dX8_flown_147 rfl (Nat.le_of_ble_eq_true rfl) rfl ?_
        refine G_aload_n (q := 150) cx dX8_flown_149 rfl rfl ?_
        refine G_callV (q := 153) (d' := 0) (f := 8) (i := 0) (As := []) (rest := []) (stk := fun _ => []) cx dX8_flown_150 rfl cf_8 (Nat.le_of_ble_eq_true rfl) ml_RX8_335 rfl rfl (Nat.le_of_ble_eq_true rfl) (Nat.le_of_ble_eq_true rfl) (Nat.le_of_ble_eq_true rfl) (c_X8_putBack l hJ  _) (fun _ => rfl) (fun r22 S23 h24 o25 => ?_)
        refine G_iload_n (q := 154) cx dX8_flown_153 rfl rfl ?_
        refine G_if_eq_y (q := 157) (t := 162) cx dX8_flown_154 rfl (by decide) (by decide) ?_
        refine G_bipush (q := 164) (v := (-5 : Int32)) cx dX8_flown_162 rfl (by decide) ?_
        exact G_iret cx rfl dX8_flown_164 trivial
      refine G_aload_n (q := 110) cx dX8_flown_109 rfl rfl ?_
      refine G_aload_n (q := 111) cx dX8_flown_110 rfl rfl ?_
      refine G_geti (q := 114) cx dX8_flown_111 rfl cf_8 fl_RX8_25 (Nat.le_of_ble_eq_true rfl) rfl (Nat.le_of_ble_eq_true rfl) ?_
      refine G_iload_n (q := 115) cx dX8_flown_114 rfl rfl ?_
      refine G_callV (q := 118) (d' := 2) (f := 8) (i := 0) (As := [.int (gI T_15 8 0 5), .int a1]) (rest := []) (stk := fun r26 => [.int r26]) cx dX8_flown_115 rfl cf_8 (Nat.le_of_ble_eq_true rfl) ml_RX8_329 rfl rfl (Nat.le_of_ble_eq_true rfl) (Nat.le_of_ble_eq_true rfl) (Nat.le_of_ble_eq_true rfl) (c_X8_goGlide l hJ  _ (gI T_15 8 0 5) a1) (fun _ => rfl) (fun r26 S27 h28 o29 => ?_)
      refine G_if_eq (q := 121) (t := 125) cx dX8_flown_118 rfl (by decide) (fun c30 => ?_) (fun c30 => ?_)
      · refine G_iconst (q := 126) (v := (0 : Int32)) cx dX8_flown_125 rfl (by decide) ?_
        refine G_istore_n (q := 127) (ls' := [(3, .int (0 : Int32)), (4, .int y4_15), (0, .ref (ad 8 0)), (1, .int a1), (2, .int a2)]) cx dX8_flown_126 rfl rfl (Nat.le_of_ble_eq_true rfl) rfl ?_
        refine G_iload_n (q := 128) cx dX8_flown_127 rfl rfl ?_
        refine G_if_ne (q := 131) (t := 138) cx dX8_flown_128 rfl (by decide) (fun c31 => ?_) (fun c31 => ?_)
        · refine G_aload_n (q := 139) cx dX8_flown_138 rfl rfl ?_
          refine G_geti (q := 142) cx dX8_flown_139 rfl cf_8 fl_RX8_13 (Nat.le_of_ble_eq_true rfl) rfl (Nat.le_of_ble_eq_true rfl) ?_
          refine G_aload_n (q := 143) cx dX8_flown_142 rfl rfl ?_
          refine G_geti (q := 146) cx dX8_flown_143 rfl cf_8 fl_RX8_99 (Nat.le_of_ble_eq_true rfl) rfl (Nat.le_of_ble_eq_true rfl) ?_
          refine G_isub (q := 147) cx dX8_flown_146 rfl ?_
          refine G_istore (q := 149) (ls' := [(4, .int ((gI S27 8 0 1) - (gI S27 8 0 29))), (3, .int (0 : Int32)), (0, .ref (ad 8 0)), (1, .int a1), (2, .int a2)]) cx dX8_flown_147 rfl (Nat.le_of_ble_eq_true rfl) rfl ?_
          refine G_aload_n (q := 150) cx dX8_flown_149 rfl rfl ?_
          refine G_callV (q := 153) (d' := 0) (f := 8) (i := 0) (As := []) (rest := []) (stk := fun _ => []) cx dX8_flown_150 rfl cf_8 (Nat.le_of_ble_eq_true rfl) ml_RX8_335 rfl rfl (Nat.le_of_ble_eq_true rfl) (Nat.le_of_ble_eq_true rfl) (Nat.le_of_ble_eq_true rfl) (c_X8_putBack l hJ  _) (fun _ => rfl) (fun r32 S33 h34 o35 => ?_)
          refine G_iload_n (q := 154) cx dX8_flown_153 rfl rfl ?_
          refine G_if_eq_y (q := 157) (t := 162) cx dX8_flown_154 rfl (by decide) (by decide) ?_
          refine G_bipush (q := 164) (v := (-5 : Int32)) cx dX8_flown_162 rfl (by decide) ?_
          exact G_iret cx rfl dX8_flown_164 trivial
        refine G_aload_n (q := 132) cx dX8_flown_131 rfl rfl ?_
        refine G_geti (q := 135) cx dX8_flown_132 rfl cf_8 fl_RX8_19 (Nat.le_of_ble_eq_true rfl) rfl (Nat.le_of_ble_eq_true rfl) ?_
        refine G_goto (t := 147) cx dX8_flown_135 (by decide) ?_
        refine G_istore (q := 149) (ls' := [(4, .int (gI S27 8 0 3)), (3, .int (0 : Int32)), (0, .ref (ad 8 0)), (1, .int a1), (2, .int a2)]) cx dX8_flown_147 rfl (Nat.le_of_ble_eq_true rfl) rfl ?_
        refine G_aload_n (q := 150) cx dX8_flown_149 rfl rfl ?_
        refine G_callV (q := 153) (d' := 0) (f := 8) (i := 0) (As := []) (rest := []) (stk := fun _ => []) cx dX8_flown_150 rfl cf_8 (Nat.le_of_ble_eq_true rfl) ml_RX8_335 rfl rfl (Nat.le_of_ble_eq_true rfl) (Nat.le_of_ble_eq_true rfl) (Nat.le_of_ble_eq_true rfl) (c_X8_putBack l hJ  _) (fun _ => rfl) (fun r36 S37 h38 o39 => ?_)
        refine G_iload_n (q := 154) cx dX8_flown_153 rfl rfl ?_
        refine G_if_eq_y (q := 157) (t := 162) cx dX8_flown_154 rfl (by decide) (by decide) ?_
        refine G_bipush (q := 164) (v := (-5 : Int32)) cx dX8_flown_162 rfl (by decide) ?_
        exact G_iret cx rfl dX8_flown_164 trivial
      refine G_iconst (q := 122) (v := (1 : Int32)) cx dX8_flown_121 rfl (by decide) ?_
      refine G_goto (t := 126) cx dX8_flown_122 (by decide) ?_
      refine G_istore_n (q := 127) (ls' := [(3, .int (1 : Int32)), (4, .int y4_15), (0, .ref (ad 8 0)), (1, .int a1), (2, .int a2)]) cx dX8_flown_126 rfl rfl (Nat.le_of_ble_eq_true rfl) rfl ?_
      refine G_iload_n (q := 128) cx dX8_flown_127 rfl rfl ?_
      refine G_if_ne (q := 131) (t := 138) cx dX8_flown_128 rfl (by decide) (fun c40 => ?_) (fun c40 => ?_)
      · refine G_aload_n (q := 139) cx dX8_flown_138 rfl rfl ?_
        refine G_geti (q := 142) cx dX8_flown_139 rfl cf_8 fl_RX8_13 (Nat.le_of_ble_eq_true rfl) rfl (Nat.le_of_ble_eq_true rfl) ?_
        refine G_aload_n (q := 143) cx dX8_flown_142 rfl rfl ?_
        refine G_geti (q := 146) cx dX8_flown_143 rfl cf_8 fl_RX8_99 (Nat.le_of_ble_eq_true rfl) rfl (Nat.le_of_ble_eq_true rfl) ?_
        refine G_isub (q := 147) cx dX8_flown_146 rfl ?_
        refine G_istore (q := 149) (ls' := [(4, .int ((gI S27 8 0 1) - (gI S27 8 0 29))), (3, .int (1 : Int32)), (0, .ref (ad 8 0)), (1, .int a1), (2, .int a2)]) cx dX8_flown_147 rfl (Nat.le_of_ble_eq_true rfl) rfl ?_
        refine G_aload_n (q := 150) cx dX8_flown_149 rfl rfl ?_
        refine G_callV (q := 153) (d' := 0) (f := 8) (i := 0) (As := []) (rest := []) (stk := fun _ => []) cx dX8_flown_150 rfl cf_8 (Nat.le_of_ble_eq_true rfl) ml_RX8_335 rfl rfl (Nat.le_of_ble_eq_true rfl) (Nat.le_of_ble_eq_true rfl) (Nat.le_of_ble_eq_true rfl) (c_X8_putBack l hJ  _) (fun _ => rfl) (fun r41 S42 h43 o44 => ?_)
        refine G_iload_n (q := 154) cx dX8_flown_153 rfl rfl ?_
        refine G_if_eq_n (q := 157) (t := 162) cx dX8_flown_154 rfl (by decide) (by decide) ?_
        refine G_iload (q := 159) cx dX8_flown_157 rfl rfl ?_
        refine G_goto (t := 164) cx dX8_flown_159 (by decide) ?_
        exact G_iret cx rfl dX8_flown_164 trivial
      refine G_aload_n (q := 132) cx dX8_flown_131 rfl rfl ?_
      refine G_geti (q := 135) cx dX8_flown_132 rfl cf_8 fl_RX8_19 (Nat.le_of_ble_eq_true rfl) rfl (Nat.le_of_ble_eq_true rfl) ?_
      refine G_goto (t := 147) cx dX8_flown_135 (by decide) ?_
      refine G_istore (q := 149) (ls' := [(4, .int (gI S27 8 0 3)), (3, .int (1 : Int32)), (0, .ref (ad 8 0)), (1, .int a1), (2, .int a2)]) cx dX8_flown_147 rfl (Nat.le_of_ble_eq_true rfl) rfl ?_
      refine G_aload_n (q := 150) cx dX8_flown_149 rfl rfl ?_
      refine G_callV (q := 153) (d' := 0) (f := 8) (i := 0) (As := []) (rest := []) (stk := fun _ => []) cx dX8_flown_150 rfl cf_8 (Nat.le_of_ble_eq_true rfl) ml_RX8_335 rfl rfl (Nat.le_of_ble_eq_true rfl) (Nat.le_of_ble_eq_true rfl) (Nat.le_of_ble_eq_true rfl) (c_X8_putBack l hJ  _) (fun _ => rfl) (fun r45 S46 h47 o48 => ?_)
      refine G_iload_n (q := 154) cx dX8_flown_153 rfl rfl ?_
      refine G_if_eq_n (q := 157) (t := 162) cx dX8_flown_154 rfl (by decide) (by decide) ?_
      refine G_iload (q := 159) cx dX8_flown_157 rfl rfl ?_
      refine G_goto (t := 164) cx dX8_flown_159 (by decide) ?_
      exact G_iret cx rfl dX8_flown_164 trivial
    · refine G_bipush (q := 22) (v := (-2 : Int32)) cx dX8_flown_20 rfl (by decide) ?_
      exact G_iret cx rfl dX8_flown_22 trivial
  · refine G_iconst (q := 11) (v := (-1 : Int32)) cx dX8_flown_10 rfl (by decide) ?_
    exact G_iret cx rfl dX8_flown_11 trivial
def F_X8_see (S : St) (a1 : Int32) : Option (Int32 × St) :=
  if a1 = (-100 : Int32) then (some ((0 : Int32), (sI S 8 0 39 (0 : Int32))))
  else (bnd (F_X8_in S a1 (-99 : Int32) (99 : Int32)) (fun r2 S3 =>
  if r2 = 0 then (some ((-2 : Int32), S3))
  else (if (gI S3 8 0 39) = (5 : Int32) then (some ((-4 : Int32), S3))
  else (if 0 ≤ (gI S3 8 0 39) ∧ (gI S3 8 0 39).toNatClampNeg < 5 then (some (gI (sI (sI S3 39 0 (gI S3 8 0 39).toNatClampNeg a1) 8 0 39 ((gI (sI S3 39 0 (gI S3 8 0 39).toNatClampNeg a1) 8 0 39) + (1 : Int32))) 8 0 39, (sI (sI S3 39 0 (gI S3 8 0 39).toNatClampNeg a1) 8 0 39 ((gI (sI S3 39 0 (gI S3 8 0 39).toNatClampNeg a1) 8 0 39) + (1 : Int32)))))
  else none))))
set_option maxRecDepth 10000 in
theorem c_X8_see (l : Launch) {D : va_G} {cy : Nat → ClassId} {ad : Nat → Nat → Nat} (hJ : wJ ad nM) (S : St) (a1 : Int32) : CT l yX8_see cX8_see 2 (some .int) 1 D cy ad nM toI okT [.ref (ad 8 0), .int a1] S (F_X8_see S a1) := by
  refine CT.of RX8 (by decide) rfl hJ (Nat.le_of_ble_eq_true rfl) rfl ?_
  intro p e s m below meth c cx
  unfold F_X8_see
  refine G_iload_n (q := 1) cx dX8_see_0 rfl rfl ?_
  refine G_bipush (q := 3) (v := (-100 : Int32)) cx dX8_see_1 rfl (by decide) ?_
  refine G_icmp_ne (q := 6) (t := 13) cx dX8_see_3 rfl (by decide) (fun c1 => ?_) (fun c1 => ?_)
  · refine G_aload_n (q := 14) cx dX8_see_13 rfl rfl ?_
    refine G_iload_n (q := 15) cx dX8_see_14 rfl rfl ?_
    refine G_bipush (q := 17) (v := (-99 : Int32)) cx dX8_see_15 rfl (by decide) ?_
    refine G_bipush (q := 19) (v := (99 : Int32)) cx dX8_see_17 rfl (by decide) ?_
    refine G_callV (q := 22) (d' := 0) (f := 8) (i := 0) (As := [.int a1, .int (-99 : Int32), .int (99 : Int32)]) (rest := []) (stk := fun r2 => [.int r2]) cx dX8_see_19 rfl cf_8 (Nat.le_of_ble_eq_true rfl) ml_RX8_227 rfl rfl (Nat.le_of_ble_eq_true rfl) (Nat.le_of_ble_eq_true rfl) (Nat.le_of_ble_eq_true rfl) (c_X8_in l hJ  _ a1 (-99 : Int32) (99 : Int32)) (fun _ => rfl) (fun r2 S3 h4 o5 => ?_)
    refine G_if_ne (q := 25) (t := 28) cx dX8_see_22 rfl (by decide) (fun c6 => ?_) (fun c6 => ?_)
    · refine G_aload_n (q := 29) cx dX8_see_28 rfl rfl ?_
      refine G_geti (q := 32) cx dX8_see_29 rfl cf_8 fl_RX8_129 (Nat.le_of_ble_eq_true rfl) rfl (Nat.le_of_ble_eq_true rfl) ?_
      refine G_iconst (q := 33) (v := (5 : Int32)) cx dX8_see_32 rfl (by decide) ?_
      refine G_icmp_ne (q := 36) (t := 39) cx dX8_see_33 rfl (by decide) (fun c7 => ?_) (fun c7 => ?_)
      · refine G_aload_n (q := 40) cx dX8_see_39 rfl rfl ?_
        refine G_getr (q := 43) (g := 39) (i' := 0) cx dX8_see_40 rfl cf_8 fl_RX8_132 (Nat.le_of_ble_eq_true rfl) rfl rfl (Nat.le_of_ble_eq_true rfl) ?_
        refine G_aload_n (q := 44) cx dX8_see_43 rfl rfl ?_
        refine G_geti (q := 47) cx dX8_see_44 rfl cf_8 fl_RX8_129 (Nat.le_of_ble_eq_true rfl) rfl (Nat.le_of_ble_eq_true rfl) ?_
        refine G_iload_n (q := 48) cx dX8_see_47 rfl rfl ?_
        refine G_iast (q := 49) cx dX8_see_48 rfl (by decide) rfl rfl (Nat.le_of_ble_eq_true rfl) (fun g8 g9 => ?_)
        refine G_aload_n (q := 50) cx dX8_see_49 rfl rfl ?_
        refine G_dup (q := 51) cx dX8_see_50 rfl rfl ?_
        refine G_geti (q := 54) cx dX8_see_51 rfl cf_8 fl_RX8_129 (Nat.le_of_ble_eq_true rfl) rfl (Nat.le_of_ble_eq_true rfl) ?_
        refine G_iconst (q := 55) (v := (1 : Int32)) cx dX8_see_54 rfl (by decide) ?_
        refine G_iadd (q := 56) cx dX8_see_55 rfl ?_
        refine G_puti (q := 59) cx dX8_see_56 rfl cf_8 fl_RX8_129 (Nat.le_of_ble_eq_true rfl) rfl rfl rfl rfl rfl (Nat.le_of_ble_eq_true rfl) ?_
        refine G_aload_n (q := 60) cx dX8_see_59 rfl rfl ?_
        refine G_geti (q := 63) cx dX8_see_60 rfl cf_8 fl_RX8_129 (Nat.le_of_ble_eq_true rfl) rfl (Nat.le_of_ble_eq_true rfl) ?_
        exact G_iret cx rfl dX8_see_63 trivial
      · refine G_bipush (q := 38) (v := (-4 : Int32)) cx dX8_see_36 rfl (by decide) ?_
        exact G_iret cx rfl dX8_see_38 trivial
    · refine G_bipush (q := 27) (v := (-2 : Int32)) cx dX8_see_25 rfl (by decide) ?_
      exact G_iret cx rfl dX8_see_27 trivial
  refine G_aload_n (q := 7) cx dX8_see_6 rfl rfl ?_
  refine G_iconst (q := 8) (v := (0 : Int32)) cx dX8_see_7 rfl (by decide) ?_
  refine G_puti (q := 11) cx dX8_see_8 rfl cf_8 fl_RX8_129 (Nat.le_of_ble_eq_true rfl) rfl rfl rfl rfl rfl (Nat.le_of_ble_eq_true rfl) ?_
  refine G_iconst (q := 12) (v := (0 : Int32)) cx dX8_see_11 rfl (by decide) ?_
  exact G_iret cx rfl dX8_see_12 trivial
def L_X8_isSeen_8 (a1 : Int32) (K_5 : Int32 → Int32 → St → Option (Int32 × St)) : Nat → Int32 → Int32 → St → Option (Int32 × St)
  | 0, _, _, _ => none
  | n + 1, x2_5, x3_5, S_5 =>
    if (gI S_5 8 0 39) ≤ x3_5 then (K_5 x2_5 x3_5 S_5)
    else (if x2_5 = 0 then (K_5 x2_5 x3_5 S_5)
    else (bnd (F_X8_goMinute S_5 a1) (fun r13 S14 =>
    if 0 ≤ x3_5 ∧ x3_5.toNatClampNeg < 5 then (if ((gI S14 8 0 3) - (gI S_5 8 0 3)) = (gI S14 39 0 x3_5.toNatClampNeg) then (L_X8_isSeen_8 a1 K_5 n (1 : Int32) (x3_5 + 1) S14)
    else (L_X8_isSeen_8 a1 K_5 n (0 : Int32) (x3_5 + 1) S14))
    else none)))
def F_X8_isSeen (S : St) (a1 : Int32) : Option (Int32 × St) :=
  bnd (F_X8_save S) (fun r1 S2 =>
  L_X8_isSeen_8 a1 
  (fun y2_5 y3_5 T_5 => bnd (F_X8_putBack T_5) (fun r6 S7 =>
  if y2_5 = 0 ∨ y2_5 = 1 then some (y2_5, S7) else none)) 1000 (1 : Int32) (0 : Int32) S2)
set_option maxRecDepth 10000 in
theorem c_X8_isSeen (l : Launch) {D : va_G} {cy : Nat → ClassId} {ad : Nat → Nat → Nat} (hJ : wJ ad nM) (S : St) (a1 : Int32) : CT l yX8_isSeen cX8_isSeen 5 (some .boolean) 5 D cy ad nM toI okZ [.ref (ad 8 0), .int a1] S (F_X8_isSeen S a1) := by
  refine CT.of RX8 (by decide) rfl hJ (Nat.le_of_ble_eq_true rfl) rfl ?_
  intro p e s m below meth c cx
  unfold F_X8_isSeen
  refine G_aload_n (q := 1) cx dX8_isSeen_0 rfl rfl ?_
  refine G_callV (q := 4) (d' := 0) (f := 8) (i := 0) (As := []) (rest := []) (stk := fun _ => []) cx dX8_isSeen_1 rfl cf_8 (Nat.le_of_ble_eq_true rfl) ml_RX8_332 rfl rfl (Nat.le_of_ble_eq_true rfl) (Nat.le_of_ble_eq_true rfl) (Nat.le_of_ble_eq_true rfl) (c_X8_save l hJ  _) (fun _ => rfl) (fun r1 S2 h3 o4 => ?_)
  refine G_iconst (q := 5) (v := (1 : Int32)) cx dX8_isSeen_4 rfl (by decide) ?_
  refine G_istore_n (q := 6) (ls' := [(2, .int (1 : Int32)), (0, .ref (ad 8 0)), (1, .int a1)]) cx dX8_isSeen_5 rfl rfl (Nat.le_of_ble_eq_true rfl) rfl ?_
  refine G_iconst (q := 7) (v := (0 : Int32)) cx dX8_isSeen_6 rfl (by decide) ?_
  refine G_istore_n (q := 8) (ls' := [(3, .int (0 : Int32)), (2, .int (1 : Int32)), (0, .ref (ad 8 0)), (1, .int a1)]) cx dX8_isSeen_7 rfl rfl (Nat.le_of_ble_eq_true rfl) rfl ?_
  have lp_5 : ∀ (K_5 : Int32 → Int32 → St → Option (Int32 × St)) (hK_5 : ∀ (y2_5 : Int32) (y3_5 : Int32) (T_5 : St), TG p l e 5 s m ([.ref (ad 8 0), .int a1] : List Value).toArray below meth c D cy ad nM toI okZ T_5 59 [(2, .int y2_5), (3, .int y3_5), (0, .ref (ad 8 0)), (1, .int a1)] [] (K_5 y2_5 y3_5 T_5)), ∀ (n_5 : Nat) (x2_5 : Int32) (x3_5 : Int32) (S_5 : St), TG p l e 5 s m ([.ref (ad 8 0), .int a1] : List Value).toArray below meth c D cy ad nM toI okZ S_5 8 [(2, .int x2_5), (3, .int x3_5), (0, .ref (ad 8 0)), (1, .int a1)] [] (L_X8_isSeen_8 a1 K_5 n_5 x2_5 x3_5 S_5) := by
    intro K_5 hK_5 n_5
    induction n_5 with
    | zero => intros; exact G_none
    | succ n_5 ih_5 =>
      intro x2_5 x3_5 S_5
      rw [L_X8_isSeen_8.eq_2]
      refine G_iload_n (q := 9) cx dX8_isSeen_8 rfl rfl ?_
      refine G_aload_n (q := 10) cx dX8_isSeen_9 rfl rfl ?_
      refine G_geti (q := 13) cx dX8_isSeen_10 rfl cf_8 fl_RX8_129 (Nat.le_of_ble_eq_true rfl) rfl (Nat.le_of_ble_eq_true rfl) ?_
      refine G_icmp_ge (q := 16) (t := 59) cx dX8_isSeen_13 rfl (by decide) (fun c11 => ?_) (fun c11 => ?_)
      · exact G_loc [0, 1, 2, 3] rfl (hK_5 x2_5 x3_5 S_5)
      refine G_iload_n (q := 17) cx dX8_isSeen_16 rfl rfl ?_
      refine G_if_eq (q := 20) (t := 59) cx dX8_isSeen_17 rfl (by decide) (fun c12 => ?_) (fun c12 => ?_)
      · exact G_loc [0, 1, 2, 3] rfl (hK_5 x2_5 x3_5 S_5)
      refine G_aload_n (q := 21) cx dX8_isSeen_20 rfl rfl ?_
      refine G_geti (q := 24) cx dX8_isSeen_21 rfl cf_8 fl_RX8_19 (Nat.le_of_ble_eq_true rfl) rfl (Nat.le_of_ble_eq_true rfl) ?_
      refine G_istore (q := 26) (ls' := [(4, .int (gI S_5 8 0 3)), (2, .int x2_5), (3, .int x3_5), (0, .ref (ad 8 0)), (1, .int a1)]) cx dX8_isSeen_24 rfl (Nat.le_of_ble_eq_true rfl) rfl ?_
      refine G_aload_n (q := 27) cx dX8_isSeen_26 rfl rfl ?_
      refine G_iload_n (q := 28) cx dX8_isSeen_27 rfl rfl ?_
      refine G_callV (q := 31) (d' := 4) (f := 8) (i := 0) (As := [.int a1]) (rest := []) (stk := fun _ => []) cx dX8_isSeen_28 rfl cf_8 (Nat.le_of_ble_eq_true rfl) ml_RX8_323 rfl rfl (Nat.le_of_ble_eq_true rfl) (Nat.le_of_ble_eq_true rfl) (Nat.le_of_ble_eq_true rfl) (c_X8_goMinute l hJ  _ a1) (fun _ => rfl) (fun r13 S14 h15 o16 => ?_)
      refine G_aload_n (q := 32) cx dX8_isSeen_31 rfl rfl ?_
      refine G_geti (q := 35) cx dX8_isSeen_32 rfl cf_8 fl_RX8_19 (Nat.le_of_ble_eq_true rfl) rfl (Nat.le_of_ble_eq_true rfl) ?_
      refine G_iload (q := 37) cx dX8_isSeen_35 rfl rfl ?_
      refine G_isub (q := 38) cx dX8_isSeen_37 rfl ?_
      refine G_aload_n (q := 39) cx dX8_isSeen_38 rfl rfl ?_
      refine G_getr (q := 42) (g := 39) (i' := 0) cx dX8_isSeen_39 rfl cf_8 fl_RX8_132 (Nat.le_of_ble_eq_true rfl) rfl rfl (Nat.le_of_ble_eq_true rfl) ?_
      refine G_iload_n (q := 43) cx dX8_isSeen_42 rfl rfl ?_
      refine G_iald (q := 44) cx dX8_isSeen_43 rfl (by decide) rfl rfl (Nat.le_of_ble_eq_true rfl) (fun g17 g18 => ?_)
      refine G_icmp_ne (q := 47) (t := 51) cx dX8_isSeen_44 rfl (by decide) (fun c19 => ?_) (fun c19 => ?_)
      · refine G_iconst (q := 52) (v := (0 : Int32)) cx dX8_isSeen_51 rfl (by decide) ?_
        refine G_istore_n (q := 53) (ls' := [(2, .int (0 : Int32)), (4, .int (gI S_5 8 0 3)), (3, .int x3_5), (0, .ref (ad 8 0)), (1, .int a1)]) cx dX8_isSeen_52 rfl rfl (Nat.le_of_ble_eq_true rfl) rfl ?_
        refine G_iinc (q := 56) (j := 2) (v := x3_5 + 1) (ls' := [(3, .int (x3_5 + 1)), (2, .int (0 : Int32)), (4, .int (gI S_5 8 0 3)), (0, .ref (ad 8 0)), (1, .int a1)]) cx dX8_isSeen_53 rfl rfl rfl (Nat.le_of_ble_eq_true rfl) rfl ?_
        refine G_goto (t := 8) cx dX8_isSeen_56 (by decide) ?_
        exact G_loc [1, 0, 3, 4] rfl (ih_5 (0 : Int32) (x3_5 + 1) S14)
      refine G_iconst (q := 48) (v := (1 : Int32)) cx dX8_isSeen_47 rfl (by decide) ?_
      refine G_goto (t := 52) cx dX8_isSeen_48 (by decide) ?_
      refine G_istore_n (q := 53) (ls' := [(2, .int (1 : Int32)), (4, .int (gI S_5 8 0 3)), (3, .int x3_5), (0, .ref (ad 8 0)), (1, .int a1)]) cx dX8_isSeen_52 rfl rfl (Nat.le_of_ble_eq_true rfl) rfl ?_
      refine G_iinc (q := 56) (j := 2) (v := x3_5 + 1) (ls' := [(3, .int (x3_5 + 1)), (2, .int (1 : Int32)), (4, .int (gI S_5 8 0 3)), (0, .ref (ad 8 0)), (1, .int a1)]) cx dX8_isSeen_53 rfl rfl rfl (Nat.le_of_ble_eq_true rfl) rfl ?_
      refine G_goto (t := 8) cx dX8_isSeen_56 (by decide) ?_
      exact G_loc [1, 0, 3, 4] rfl (ih_5 (1 : Int32) (x3_5 + 1) S14)
  refine G_loc [1, 0, 2, 3] rfl (lp_5 _ (fun y2_5 y3_5 T_5 => ?_) 1000 (1 : Int32) (0 : Int32) S2)
  refine G_aload_n (q := 60) cx dX8_isSeen_59 rfl rfl ?_
  refine G_callV (q := 63) (d' := 0) (f := 8) (i := 0) (As := []) (rest := []) (stk := fun _ => []) cx dX8_isSeen_60 rfl cf_8 (Nat.le_of_ble_eq_true rfl) ml_RX8_335 rfl rfl (Nat.le_of_ble_eq_true rfl) (Nat.le_of_ble_eq_true rfl) (Nat.le_of_ble_eq_true rfl) (c_X8_putBack l hJ  _) (fun _ => rfl) (fun r6 S7 h8 o9 => ?_)
  refine G_iload_n (q := 64) cx dX8_isSeen_63 rfl rfl ?_
  refine G_guard (fun g10 => ?_)
  exact G_zret (ty := .boolean) cx rfl dX8_isSeen_64 (nz01 g10) (nz01 g10)
def L_X8_who_4 (K_1 : Int32 → Int32 → St → Option (Int32 × St)) : Nat → Int32 → Int32 → St → Option (Int32 × St)
  | 0, _, _, _ => none
  | n + 1, x1_1, x2_1, S_1 =>
    if (gI S_1 8 0 0) ≤ x2_1 then (K_1 x1_1 x2_1 S_1)
    else (bnd (F_X8_isSeen S_1 x2_1) (fun r3 S4 =>
    if r3 = 0 then (L_X8_who_4 K_1 n (x1_1 ||| (0 : Int32)) (x2_1 + 1) S4)
    else (L_X8_who_4 K_1 n (x1_1 ||| ((1 : Int32) <<< (x2_1 &&& 31))) (x2_1 + 1) S4)))
def F_X8_who (S : St) : Option (Int32 × St) :=
  L_X8_who_4 
  (fun y1_1 y2_1 T_1 => some (y1_1, T_1)) 1000 (0 : Int32) (0 : Int32) S
set_option maxRecDepth 10000 in
theorem c_X8_who (l : Launch) {D : va_G} {cy : Nat → ClassId} {ad : Nat → Nat → Nat} (hJ : wJ ad nM) (S : St) : CT l yX8_who cX8_who 3 (some .int) 6 D cy ad nM toI okT [.ref (ad 8 0)] S (F_X8_who S) := by
  refine CT.of RX8 (by decide) rfl hJ (Nat.le_of_ble_eq_true rfl) rfl ?_
  intro p e s m below meth c cx
  unfold F_X8_who
  refine G_iconst (q := 1) (v := (0 : Int32)) cx dX8_who_0 rfl (by decide) ?_
  refine G_istore_n (q := 2) (ls' := [(1, .int (0 : Int32)), (0, .ref (ad 8 0))]) cx dX8_who_1 rfl rfl (Nat.le_of_ble_eq_true rfl) rfl ?_
  refine G_iconst (q := 3) (v := (0 : Int32)) cx dX8_who_2 rfl (by decide) ?_
  refine G_istore_n (q := 4) (ls' := [(2, .int (0 : Int32)), (1, .int (0 : Int32)), (0, .ref (ad 8 0))]) cx dX8_who_3 rfl rfl (Nat.le_of_ble_eq_true rfl) rfl ?_
  have lp_1 : ∀ (K_1 : Int32 → Int32 → St → Option (Int32 × St)) (hK_1 : ∀ (y1_1 : Int32) (y2_1 : Int32) (T_1 : St), TG p l e 6 s m ([.ref (ad 8 0)] : List Value).toArray below meth c D cy ad nM toI okT T_1 36 [(1, .int y1_1), (2, .int y2_1), (0, .ref (ad 8 0))] [] (K_1 y1_1 y2_1 T_1)), ∀ (n_1 : Nat) (x1_1 : Int32) (x2_1 : Int32) (S_1 : St), TG p l e 6 s m ([.ref (ad 8 0)] : List Value).toArray below meth c D cy ad nM toI okT S_1 4 [(1, .int x1_1), (2, .int x2_1), (0, .ref (ad 8 0))] [] (L_X8_who_4 K_1 n_1 x1_1 x2_1 S_1) := by
    intro K_1 hK_1 n_1
    induction n_1 with
    | zero => intros; exact G_none
    | succ n_1 ih_1 =>
      intro x1_1 x2_1 S_1
      rw [L_X8_who_4.eq_2]
      refine G_iload_n (q := 5) cx dX8_who_4 rfl rfl ?_
      refine G_aload_n (q := 6) cx dX8_who_5 rfl rfl ?_
      refine G_geti (q := 9) cx dX8_who_6 rfl cf_8 fl_RX8_7 (Nat.le_of_ble_eq_true rfl) rfl (Nat.le_of_ble_eq_true rfl) ?_
      refine G_icmp_ge (q := 12) (t := 36) cx dX8_who_9 rfl (by decide) (fun c2 => ?_) (fun c2 => ?_)
      · exact G_loc [0, 1, 2] rfl (hK_1 x1_1 x2_1 S_1)
      refine G_iload_n (q := 13) cx dX8_who_12 rfl rfl ?_
      refine G_aload_n (q := 14) cx dX8_who_13 rfl rfl ?_
      refine G_iload_n (q := 15) cx dX8_who_14 rfl rfl ?_
      refine G_callV (q := 18) (d' := 5) (f := 8) (i := 0) (As := [.int x2_1]) (rest := [.int x1_1]) (stk := fun r3 => [.int r3, .int x1_1]) cx dX8_who_15 rfl cf_8 (Nat.le_of_ble_eq_true rfl) ml_RX8_361 rfl rfl (Nat.le_of_ble_eq_true rfl) (Nat.le_of_ble_eq_true rfl) (Nat.le_of_ble_eq_true rfl) (c_X8_isSeen l hJ  _ x2_1) (fun _ => rfl) (fun r3 S4 h5 o6 => ?_)
      refine G_if_eq (q := 21) (t := 27) cx dX8_who_18 rfl (by decide) (fun c7 => ?_) (fun c7 => ?_)
      · refine G_iconst (q := 28) (v := (0 : Int32)) cx dX8_who_27 rfl (by decide) ?_
        refine G_ior (q := 29) cx dX8_who_28 rfl ?_
        refine G_istore_n (q := 30) (ls' := [(1, .int (x1_1 ||| (0 : Int32))), (2, .int x2_1), (0, .ref (ad 8 0))]) cx dX8_who_29 rfl rfl (Nat.le_of_ble_eq_true rfl) rfl ?_
        refine G_iinc (q := 33) (j := 1) (v := x2_1 + 1) (ls' := [(2, .int (x2_1 + 1)), (1, .int (x1_1 ||| (0 : Int32))), (0, .ref (ad 8 0))]) cx dX8_who_30 rfl rfl rfl (Nat.le_of_ble_eq_true rfl) rfl ?_
        refine G_goto (t := 4) cx dX8_who_33 (by decide) ?_
        exact G_loc [1, 0, 2] rfl (ih_1 (x1_1 ||| (0 : Int32)) (x2_1 + 1) S4)
      refine G_iconst (q := 22) (v := (1 : Int32)) cx dX8_who_21 rfl (by decide) ?_
      refine G_iload_n (q := 23) cx dX8_who_22 rfl rfl ?_
      refine G_ishl (q := 24) cx dX8_who_23 rfl ?_
      refine G_goto (t := 28) cx dX8_who_24 (by decide) ?_
      refine G_ior (q := 29) cx dX8_who_28 rfl ?_
      refine G_istore_n (q := 30) (ls' := [(1, .int (x1_1 ||| ((1 : Int32) <<< (x2_1 &&& 31)))), (2, .int x2_1), (0, .ref (ad 8 0))]) cx dX8_who_29 rfl rfl (Nat.le_of_ble_eq_true rfl) rfl ?_
      refine G_iinc (q := 33) (j := 1) (v := x2_1 + 1) (ls' := [(2, .int (x2_1 + 1)), (1, .int (x1_1 ||| ((1 : Int32) <<< (x2_1 &&& 31)))), (0, .ref (ad 8 0))]) cx dX8_who_30 rfl rfl rfl (Nat.le_of_ble_eq_true rfl) rfl ?_
      refine G_goto (t := 4) cx dX8_who_33 (by decide) ?_
      exact G_loc [1, 0, 2] rfl (ih_1 (x1_1 ||| ((1 : Int32) <<< (x2_1 &&& 31))) (x2_1 + 1) S4)
  refine G_loc [1, 0, 2] rfl (lp_1 _ (fun y1_1 y2_1 T_1 => ?_) 1000 (0 : Int32) (0 : Int32) S)
  refine G_iload_n (q := 37) cx dX8_who_36 rfl rfl ?_
  exact G_iret cx rfl dX8_who_37 trivial
def L_X8_divisor_5 (K_1 : Int32 → Int32 → St → Option (Int32 × St)) : Nat → Int32 → Int32 → St → Option (Int32 × St)
  | 0, _, _, _ => none
  | n + 1, x3_1, x4_1, S_1 =>
    if x4_1 = 0 then (K_1 x3_1 x4_1 S_1)
    else (if x4_1 = 0 then none else (L_X8_divisor_5 K_1 n x4_1 (x3_1 - x3_1 / x4_1 * x4_1) S_1))
def F_X8_divisor (S : St) (a1 : Int32) (a2 : Int32) : Option (Int32 × St) :=
  L_X8_divisor_5 
  (fun y3_1 y4_1 T_1 => some (y3_1, T_1)) 1000 a1 a2 S
set_option maxRecDepth 10000 in
theorem c_X8_divisor (l : Launch) {D : va_G} {cy : Nat → ClassId} {ad : Nat → Nat → Nat} (hJ : wJ ad nM) (S : St) (a1 : Int32) (a2 : Int32) : CT l yX8_divisor cX8_divisor 6 (some .int) 0 D cy ad nM toI okT [.ref (ad 8 0), .int a1, .int a2] S (F_X8_divisor S a1 a2) := by
  refine CT.of RX8 (by decide) rfl hJ (Nat.le_of_ble_eq_true rfl) rfl ?_
  intro p e s m below meth c cx
  unfold F_X8_divisor
  refine G_iload_n (q := 1) cx dX8_divisor_0 rfl rfl ?_
  refine G_istore_n (q := 2) (ls' := [(3, .int a1), (0, .ref (ad 8 0)), (1, .int a1), (2, .int a2)]) cx dX8_divisor_1 rfl rfl (Nat.le_of_ble_eq_true rfl) rfl ?_
  refine G_iload_n (q := 3) cx dX8_divisor_2 rfl rfl ?_
  refine G_istore (q := 5) (ls' := [(4, .int a2), (3, .int a1), (0, .ref (ad 8 0)), (1, .int a1), (2, .int a2)]) cx dX8_divisor_3 rfl (Nat.le_of_ble_eq_true rfl) rfl ?_
  have lp_1 : ∀ (K_1 : Int32 → Int32 → St → Option (Int32 × St)) (hK_1 : ∀ (y3_1 : Int32) (y4_1 : Int32) (T_1 : St), TG p l e 0 s m ([.ref (ad 8 0), .int a1, .int a2] : List Value).toArray below meth c D cy ad nM toI okT T_1 26 [(3, .int y3_1), (4, .int y4_1), (0, .ref (ad 8 0)), (1, .int a1), (2, .int a2)] [] (K_1 y3_1 y4_1 T_1)), ∀ (n_1 : Nat) (x3_1 : Int32) (x4_1 : Int32) (S_1 : St), TG p l e 0 s m ([.ref (ad 8 0), .int a1, .int a2] : List Value).toArray below meth c D cy ad nM toI okT S_1 5 [(3, .int x3_1), (4, .int x4_1), (0, .ref (ad 8 0)), (1, .int a1), (2, .int a2)] [] (L_X8_divisor_5 K_1 n_1 x3_1 x4_1 S_1) := by
    intro K_1 hK_1 n_1
    induction n_1 with
    | zero => intros; exact G_none
    | succ n_1 ih_1 =>
      intro x3_1 x4_1 S_1
      rw [L_X8_divisor_5.eq_2]
      refine G_iload (q := 7) cx dX8_divisor_5 rfl rfl ?_
      refine G_if_eq (q := 10) (t := 26) cx dX8_divisor_7 rfl (by decide) (fun c2 => ?_) (fun c2 => ?_)
      · exact G_loc [0, 1, 2, 3, 4] rfl (hK_1 x3_1 x4_1 S_1)
      refine G_iload_n (q := 11) cx dX8_divisor_10 rfl rfl ?_
      refine G_iload (q := 13) cx dX8_divisor_11 rfl rfl ?_
      refine G_case (fun _ => G_none) (fun g3 => ?_)
      refine G_irem (q := 14) cx dX8_divisor_13 rfl g3 ?_
      refine G_istore (q := 16) (ls' := [(5, .int (x3_1 - x3_1 / x4_1 * x4_1)), (3, .int x3_1), (4, .int x4_1), (0, .ref (ad 8 0)), (1, .int a1), (2, .int a2)]) cx dX8_divisor_14 rfl (Nat.le_of_ble_eq_true rfl) rfl ?_
      refine G_iload (q := 18) cx dX8_divisor_16 rfl rfl ?_
      refine G_istore_n (q := 19) (ls' := [(3, .int x4_1), (5, .int (x3_1 - x3_1 / x4_1 * x4_1)), (4, .int x4_1), (0, .ref (ad 8 0)), (1, .int a1), (2, .int a2)]) cx dX8_divisor_18 rfl rfl (Nat.le_of_ble_eq_true rfl) rfl ?_
      refine G_iload (q := 21) cx dX8_divisor_19 rfl rfl ?_
      refine G_istore (q := 23) (ls' := [(4, .int (x3_1 - x3_1 / x4_1 * x4_1)), (3, .int x4_1), (5, .int (x3_1 - x3_1 / x4_1 * x4_1)), (0, .ref (ad 8 0)), (1, .int a1), (2, .int a2)]) cx dX8_divisor_21 rfl (Nat.le_of_ble_eq_true rfl) rfl ?_
      refine G_goto (t := 5) cx dX8_divisor_23 (by decide) ?_
      exact G_loc [1, 0, 3, 4, 5] rfl (ih_1 x4_1 (x3_1 - x3_1 / x4_1 * x4_1) S_1)
  refine G_loc [1, 0, 2, 3, 4] rfl (lp_1 _ (fun y3_1 y4_1 T_1 => ?_) 1000 a1 a2 S)
  refine G_iload_n (q := 27) cx dX8_divisor_26 rfl rfl ?_
  exact G_iret cx rfl dX8_divisor_27 trivial
def F_X8_lowestTerms (S : St) (a1 : Int32) (a2 : Int32) (a3 : Int32) : Option (Int64 × St) :=
  bnd (F_X8_divisor S a1 a2) (fun r1 S2 =>
  if a3 = 0 then (if r1 = 0 then none else (some ((a1 / r1).toInt64, S2)))
  else (if r1 = 0 then none else (some ((a2 / r1).toInt64, S2))))
set_option maxRecDepth 10000 in
theorem c_X8_lowestTerms (l : Launch) {D : va_G} {cy : Nat → ClassId} {ad : Nat → Nat → Nat} (hJ : wJ ad nM) (S : St) (a1 : Int32) (a2 : Int32) (a3 : Int32) : CT l yX8_lowestTerms cX8_lowestTerms 5 (some .long) 1 D cy ad nM toJ okT [.ref (ad 8 0), .int a1, .int a2, .int a3] S (F_X8_lowestTerms S a1 a2 a3) := by
  refine CT.of RX8 (by decide) rfl hJ (Nat.le_of_ble_eq_true rfl) rfl ?_
  intro p e s m below meth c cx
  unfold F_X8_lowestTerms
  refine G_aload_n (q := 1) cx dX8_lowestTerms_0 rfl rfl ?_
  refine G_iload_n (q := 2) cx dX8_lowestTerms_1 rfl rfl ?_
  refine G_iload_n (q := 3) cx dX8_lowestTerms_2 rfl rfl ?_
  refine G_callV (q := 6) (d' := 0) (f := 8) (i := 0) (As := [.int a1, .int a2]) (rest := []) (stk := fun r1 => [.int r1]) cx dX8_lowestTerms_3 rfl cf_8 (Nat.le_of_ble_eq_true rfl) ml_RX8_364 rfl rfl (Nat.le_of_ble_eq_true rfl) (Nat.le_of_ble_eq_true rfl) (Nat.le_of_ble_eq_true rfl) (c_X8_divisor l hJ  _ a1 a2) (fun _ => rfl) (fun r1 S2 h3 o4 => ?_)
  refine G_istore (q := 8) (ls' := [(4, .int r1), (0, .ref (ad 8 0)), (1, .int a1), (2, .int a2), (3, .int a3)]) cx dX8_lowestTerms_6 rfl (Nat.le_of_ble_eq_true rfl) rfl ?_
  refine G_iload_n (q := 9) cx dX8_lowestTerms_8 rfl rfl ?_
  refine G_if_ne (q := 12) (t := 20) cx dX8_lowestTerms_9 rfl (by decide) (fun c5 => ?_) (fun c5 => ?_)
  · refine G_iload_n (q := 21) cx dX8_lowestTerms_20 rfl rfl ?_
    refine G_iload (q := 23) cx dX8_lowestTerms_21 rfl rfl ?_
    refine G_case (fun _ => G_none) (fun g6 => ?_)
    refine G_idiv (q := 24) cx dX8_lowestTerms_23 rfl g6 ?_
    refine G_i2l (q := 25) cx dX8_lowestTerms_24 rfl ?_
    exact G_lret cx rfl dX8_lowestTerms_25 trivial
  refine G_iload_n (q := 13) cx dX8_lowestTerms_12 rfl rfl ?_
  refine G_iload (q := 15) cx dX8_lowestTerms_13 rfl rfl ?_
  refine G_case (fun _ => G_none) (fun g7 => ?_)
  refine G_idiv (q := 16) cx dX8_lowestTerms_15 rfl g7 ?_
  refine G_i2l (q := 17) cx dX8_lowestTerms_16 rfl ?_
  refine G_goto (t := 25) cx dX8_lowestTerms_17 (by decide) ?_
  exact G_lret cx rfl dX8_lowestTerms_25 trivial
def L_X8_odds_47 (a1 : Int32) (a2 : Int32) (K_17 : Int32 → Int32 → St → Option (Int64 × St)) : Nat → Int32 → Int32 → St → Option (Int64 × St)
  | 0, _, _, _ => none
  | n + 1, x4_17, x5_17, S_17 =>
    if (gI S_17 8 0 0) ≤ x5_17 then (K_17 x4_17 x5_17 S_17)
    else (bnd (F_X8_upOf S_17 x5_17 a2) (fun r23 S24 =>
    if r23 < a1 then (L_X8_odds_47 a1 a2 K_17 n (x4_17 + (0 : Int32)) (x5_17 + 1) S24)
    else (L_X8_odds_47 a1 a2 K_17 n (x4_17 + (1 : Int32)) (x5_17 + 1) S24)))
def F_X8_odds (S : St) (a1 : Int32) (a2 : Int32) (a3 : Int32) : Option (Int64 × St) :=
  bnd (F_X8_in S a1 (0 : Int32) (400 : Int32)) (fun r1 S2 =>
  if r1 = 0 then (some ((-9223372036854775808 : Int64), S2))
  else (bnd (F_X8_isTime S2 a2) (fun r6 S7 =>
  if r6 = 0 then (some ((-9223372036854775808 : Int64), S7))
  else (bnd (F_X8_in S7 a3 (0 : Int32) (1 : Int32)) (fun r11 S12 =>
  if r11 = 0 then (some ((-9223372036854775808 : Int64), S12))
  else (if (gI S12 8 0 0) = 0 then (some ((-9223372036854775808 : Int64), S12))
  else (L_X8_odds_47 a1 a2 
  (fun y4_17 y5_17 T_17 => bnd (F_X8_lowestTerms T_17 y4_17 (gI T_17 8 0 0) a3) (fun r18 S19 =>
  some (r18, S19))) 1000 (0 : Int32) (0 : Int32) S12)))))))
set_option maxRecDepth 10000 in
theorem c_X8_odds (l : Launch) {D : va_G} {cy : Nat → ClassId} {ad : Nat → Nat → Nat} (hJ : wJ ad nM) (S : St) (a1 : Int32) (a2 : Int32) (a3 : Int32) : CT l yX8_odds cX8_odds 6 (some .long) 6 D cy ad nM toJ okT [.ref (ad 8 0), .int a1, .int a2, .int a3] S (F_X8_odds S a1 a2 a3) := by
  refine CT.of RX8 (by decide) rfl hJ (Nat.le_of_ble_eq_true rfl) rfl ?_
  intro p e s m below meth c cx
  unfold F_X8_odds
  refine G_aload_n (q := 1) cx dX8_odds_0 rfl rfl ?_
  refine G_iload_n (q := 2) cx dX8_odds_1 rfl rfl ?_
  refine G_iconst (q := 3) (v := (0 : Int32)) cx dX8_odds_2 rfl (by decide) ?_
  refine G_sipush (q := 6) (v := (400 : Int32)) cx dX8_odds_3 rfl (by decide) ?_
  refine G_callV (q := 9) (d' := 0) (f := 8) (i := 0) (As := [.int a1, .int (0 : Int32), .int (400 : Int32)]) (rest := []) (stk := fun r1 => [.int r1]) cx dX8_odds_6 rfl cf_8 (Nat.le_of_ble_eq_true rfl) ml_RX8_227 rfl rfl (Nat.le_of_ble_eq_true rfl) (Nat.le_of_ble_eq_true rfl) (Nat.le_of_ble_eq_true rfl) (c_X8_in l hJ  _ a1 (0 : Int32) (400 : Int32)) (fun _ => rfl) (fun r1 S2 h3 o4 => ?_)
  refine G_if_eq (q := 12) (t := 37) cx dX8_odds_9 rfl (by decide) (fun c5 => ?_) (fun c5 => ?_)
  · refine G_ldc2_w (q := 40) (v := (-9223372036854775808 : Int64)) cx dX8_odds_37 rfl (inG (inT 1271 (by decide +kernel)) rfl) ?_
    exact G_lret cx rfl dX8_odds_40 trivial
  refine G_aload_n (q := 13) cx dX8_odds_12 rfl rfl ?_
  refine G_iload_n (q := 14) cx dX8_odds_13 rfl rfl ?_
  refine G_callV (q := 17) (d' := 1) (f := 8) (i := 0) (As := [.int a2]) (rest := []) (stk := fun r6 => [.int r6]) cx dX8_odds_14 rfl cf_8 (Nat.le_of_ble_eq_true rfl) ml_RX8_320 rfl rfl (Nat.le_of_ble_eq_true rfl) (Nat.le_of_ble_eq_true rfl) (Nat.le_of_ble_eq_true rfl) (c_X8_isTime l hJ  _ a2) (fun _ => rfl) (fun r6 S7 h8 o9 => ?_)
  refine G_if_eq (q := 20) (t := 37) cx dX8_odds_17 rfl (by decide) (fun c10 => ?_) (fun c10 => ?_)
  · refine G_ldc2_w (q := 40) (v := (-9223372036854775808 : Int64)) cx dX8_odds_37 rfl (inG (inT 1271 (by decide +kernel)) rfl) ?_
    exact G_lret cx rfl dX8_odds_40 trivial
  refine G_aload_n (q := 21) cx dX8_odds_20 rfl rfl ?_
  refine G_iload_n (q := 22) cx dX8_odds_21 rfl rfl ?_
  refine G_iconst (q := 23) (v := (0 : Int32)) cx dX8_odds_22 rfl (by decide) ?_
  refine G_iconst (q := 24) (v := (1 : Int32)) cx dX8_odds_23 rfl (by decide) ?_
  refine G_callV (q := 27) (d' := 0) (f := 8) (i := 0) (As := [.int a3, .int (0 : Int32), .int (1 : Int32)]) (rest := []) (stk := fun r11 => [.int r11]) cx dX8_odds_24 rfl cf_8 (Nat.le_of_ble_eq_true rfl) ml_RX8_227 rfl rfl (Nat.le_of_ble_eq_true rfl) (Nat.le_of_ble_eq_true rfl) (Nat.le_of_ble_eq_true rfl) (c_X8_in l hJ  _ a3 (0 : Int32) (1 : Int32)) (fun _ => rfl) (fun r11 S12 h13 o14 => ?_)
  refine G_if_eq (q := 30) (t := 37) cx dX8_odds_27 rfl (by decide) (fun c15 => ?_) (fun c15 => ?_)
  · refine G_ldc2_w (q := 40) (v := (-9223372036854775808 : Int64)) cx dX8_odds_37 rfl (inG (inT 1271 (by decide +kernel)) rfl) ?_
    exact G_lret cx rfl dX8_odds_40 trivial
  refine G_aload_n (q := 31) cx dX8_odds_30 rfl rfl ?_
  refine G_geti (q := 34) cx dX8_odds_31 rfl cf_8 fl_RX8_7 (Nat.le_of_ble_eq_true rfl) rfl (Nat.le_of_ble_eq_true rfl) ?_
  refine G_if_ne (q := 37) (t := 41) cx dX8_odds_34 rfl (by decide) (fun c16 => ?_) (fun c16 => ?_)
  · refine G_iconst (q := 42) (v := (0 : Int32)) cx dX8_odds_41 rfl (by decide) ?_
    refine G_istore (q := 44) (ls' := [(4, .int (0 : Int32)), (0, .ref (ad 8 0)), (1, .int a1), (2, .int a2), (3, .int a3)]) cx dX8_odds_42 rfl (Nat.le_of_ble_eq_true rfl) rfl ?_
    refine G_iconst (q := 45) (v := (0 : Int32)) cx dX8_odds_44 rfl (by decide) ?_
    refine G_istore (q := 47) (ls' := [(5, .int (0 : Int32)), (4, .int (0 : Int32)), (0, .ref (ad 8 0)), (1, .int a1), (2, .int a2), (3, .int a3)]) cx dX8_odds_45 rfl (Nat.le_of_ble_eq_true rfl) rfl ?_
    have lp_17 : ∀ (K_17 : Int32 → Int32 → St → Option (Int64 × St)) (hK_17 : ∀ (y4_17 : Int32) (y5_17 : Int32) (T_17 : St), TG p l e 6 s m ([.ref (ad 8 0), .int a1, .int a2, .int a3] : List Value).toArray below meth c D cy ad nM toJ okT T_17 83 [(4, .int y4_17), (5, .int y5_17), (0, .ref (ad 8 0)), (1, .int a1), (2, .int a2), (3, .int a3)] [] (K_17 y4_17 y5_17 T_17)), ∀ (n_17 : Nat) (x4_17 : Int32) (x5_17 : Int32) (S_17 : St), TG p l e 6 s m ([.ref (ad 8 0), .int a1, .int a2, .int a3] : List Value).toArray below meth c D cy ad nM toJ okT S_17 47 [(4, .int x4_17), (5, .int x5_17), (0, .ref (ad 8 0)), (1, .int a1), (2, .int a2), (3, .int a3)] [] (L_X8_odds_47 a1 a2 K_17 n_17 x4_17 x5_17 S_17) := by
      intro K_17 hK_17 n_17
      induction n_17 with
      | zero => intros; exact G_none
      | succ n_17 ih_17 =>
        intro x4_17 x5_17 S_17
        rw [L_X8_odds_47.eq_2]
        refine G_iload (q := 49) cx dX8_odds_47 rfl rfl ?_
        refine G_aload_n (q := 50) cx dX8_odds_49 rfl rfl ?_
        refine G_geti (q := 53) cx dX8_odds_50 rfl cf_8 fl_RX8_7 (Nat.le_of_ble_eq_true rfl) rfl (Nat.le_of_ble_eq_true rfl) ?_
        refine G_icmp_ge (q := 56) (t := 83) cx dX8_odds_53 rfl (by decide) (fun c22 => ?_) (fun c22 => ?_)
        · exact G_loc [0, 1, 2, 3, 4, 5] rfl (hK_17 x4_17 x5_17 S_17)
        refine G_iload (q := 58) cx dX8_odds_56 rfl rfl ?_
        refine G_aload_n (q := 59) cx dX8_odds_58 rfl rfl ?_
        refine G_iload (q := 61) cx dX8_odds_59 rfl rfl ?_
        refine G_iload_n (q := 62) cx dX8_odds_61 rfl rfl ?_
        refine G_callV (q := 65) (d' := 5) (f := 8) (i := 0) (As := [.int x5_17, .int a2]) (rest := [.int x4_17]) (stk := fun r23 => [.int r23, .int x4_17]) cx dX8_odds_62 rfl cf_8 (Nat.le_of_ble_eq_true rfl) ml_RX8_338 rfl rfl (Nat.le_of_ble_eq_true rfl) (Nat.le_of_ble_eq_true rfl) (Nat.le_of_ble_eq_true rfl) (c_X8_upOf l hJ  _ x5_17 a2) (fun _ => rfl) (fun r23 S24 h25 o26 => ?_)
        refine G_iload_n (q := 66) cx dX8_odds_65 rfl rfl ?_
        refine G_icmp_lt (q := 69) (t := 73) cx dX8_odds_66 rfl (by decide) (fun c27 => ?_) (fun c27 => ?_)
        · refine G_iconst (q := 74) (v := (0 : Int32)) cx dX8_odds_73 rfl (by decide) ?_
          refine G_iadd (q := 75) cx dX8_odds_74 rfl ?_
          refine G_istore (q := 77) (ls' := [(4, .int (x4_17 + (0 : Int32))), (5, .int x5_17), (0, .ref (ad 8 0)), (1, .int a1), (2, .int a2), (3, .int a3)]) cx dX8_odds_75 rfl (Nat.le_of_ble_eq_true rfl) rfl ?_
          refine G_iinc (q := 80) (j := 1) (v := x5_17 + 1) (ls' := [(5, .int (x5_17 + 1)), (4, .int (x4_17 + (0 : Int32))), (0, .ref (ad 8 0)), (1, .int a1), (2, .int a2), (3, .int a3)]) cx dX8_odds_77 rfl rfl rfl (Nat.le_of_ble_eq_true rfl) rfl ?_
          refine G_goto (t := 47) cx dX8_odds_80 (by decide) ?_
          exact G_loc [1, 0, 2, 3, 4, 5] rfl (ih_17 (x4_17 + (0 : Int32)) (x5_17 + 1) S24)
        refine G_iconst (q := 70) (v := (1 : Int32)) cx dX8_odds_69 rfl (by decide) ?_
        refine G_goto (t := 74) cx dX8_odds_70 (by decide) ?_
        refine G_iadd (q := 75) cx dX8_odds_74 rfl ?_
        refine G_istore (q := 77) (ls' := [(4, .int (x4_17 + (1 : Int32))), (5, .int x5_17), (0, .ref (ad 8 0)), (1, .int a1), (2, .int a2), (3, .int a3)]) cx dX8_odds_75 rfl (Nat.le_of_ble_eq_true rfl) rfl ?_
        refine G_iinc (q := 80) (j := 1) (v := x5_17 + 1) (ls' := [(5, .int (x5_17 + 1)), (4, .int (x4_17 + (1 : Int32))), (0, .ref (ad 8 0)), (1, .int a1), (2, .int a2), (3, .int a3)]) cx dX8_odds_77 rfl rfl rfl (Nat.le_of_ble_eq_true rfl) rfl ?_
        refine G_goto (t := 47) cx dX8_odds_80 (by decide) ?_
        exact G_loc [1, 0, 2, 3, 4, 5] rfl (ih_17 (x4_17 + (1 : Int32)) (x5_17 + 1) S24)
    refine G_loc [1, 0, 2, 3, 4, 5] rfl (lp_17 _ (fun y4_17 y5_17 T_17 => ?_) 1000 (0 : Int32) (0 : Int32) S12)
    refine G_aload_n (q := 84) cx dX8_odds_83 rfl rfl ?_
    refine G_iload (q := 86) cx dX8_odds_84 rfl rfl ?_
    refine G_aload_n (q := 87) cx dX8_odds_86 rfl rfl ?_
    refine G_geti (q := 90) cx dX8_odds_87 rfl cf_8 fl_RX8_7 (Nat.le_of_ble_eq_true rfl) rfl (Nat.le_of_ble_eq_true rfl) ?_
    refine G_iload_n (q := 91) cx dX8_odds_90 rfl rfl ?_
    refine G_callV (q := 94) (d' := 1) (f := 8) (i := 0) (As := [.int y4_17, .int (gI T_17 8 0 0), .int a3]) (rest := []) (stk := fun r18 => [.long r18]) cx dX8_odds_91 rfl cf_8 (Nat.le_of_ble_eq_true rfl) ml_RX8_369 rfl rfl (Nat.le_of_ble_eq_true rfl) (Nat.le_of_ble_eq_true rfl) (Nat.le_of_ble_eq_true rfl) (c_X8_lowestTerms l hJ  _ y4_17 (gI T_17 8 0 0) a3) (fun _ => rfl) (fun r18 S19 h20 o21 => ?_)
    exact G_lret cx rfl dX8_odds_94 trivial
  · refine G_ldc2_w (q := 40) (v := (-9223372036854775808 : Int64)) cx dX8_odds_37 rfl (inG (inT 1271 (by decide +kernel)) rfl) ?_
    exact G_lret cx rfl dX8_odds_40 trivial
def L_X8_mean_34 (a1 : Int32) (K_12 : Int32 → Int32 → St → Option (Int64 × St)) : Nat → Int32 → Int32 → St → Option (Int64 × St)
  | 0, _, _, _ => none
  | n + 1, x3_12, x4_12, S_12 =>
    if (gI S_12 8 0 0) ≤ x4_12 then (K_12 x3_12 x4_12 S_12)
    else (bnd (F_X8_upOf S_12 x4_12 a1) (fun r18 S19 =>
    L_X8_mean_34 a1 K_12 n (x3_12 + r18) (x4_12 + 1) S19))
def F_X8_mean (S : St) (a1 : Int32) (a2 : Int32) : Option (Int64 × St) :=
  bnd (F_X8_isTime S a1) (fun r1 S2 =>
  if r1 = 0 then (some ((-9223372036854775808 : Int64), S2))
  else (bnd (F_X8_in S2 a2 (0 : Int32) (1 : Int32)) (fun r6 S7 =>
  if r6 = 0 then (some ((-9223372036854775808 : Int64), S7))
  else (if (gI S7 8 0 0) = 0 then (some ((-9223372036854775808 : Int64), S7))
  else (L_X8_mean_34 a1 
  (fun y3_12 y4_12 T_12 => bnd (F_X8_lowestTerms T_12 y3_12 (gI T_12 8 0 0) a2) (fun r13 S14 =>
  some (r13, S14))) 1000 (0 : Int32) (0 : Int32) S7)))))
set_option maxRecDepth 10000 in
theorem c_X8_mean (l : Launch) {D : va_G} {cy : Nat → ClassId} {ad : Nat → Nat → Nat} (hJ : wJ ad nM) (S : St) (a1 : Int32) (a2 : Int32) : CT l yX8_mean cX8_mean 5 (some .long) 6 D cy ad nM toJ okT [.ref (ad 8 0), .int a1, .int a2] S (F_X8_mean S a1 a2) := by
  refine CT.of RX8 (by decide) rfl hJ (Nat.le_of_ble_eq_true rfl) rfl ?_
  intro p e s m below meth c cx
  unfold F_X8_mean
  refine G_aload_n (q := 1) cx dX8_mean_0 rfl rfl ?_
  refine G_iload_n (q := 2) cx dX8_mean_1 rfl rfl ?_
  refine G_callV (q := 5) (d' := 1) (f := 8) (i := 0) (As := [.int a1]) (rest := []) (stk := fun r1 => [.int r1]) cx dX8_mean_2 rfl cf_8 (Nat.le_of_ble_eq_true rfl) ml_RX8_320 rfl rfl (Nat.le_of_ble_eq_true rfl) (Nat.le_of_ble_eq_true rfl) (Nat.le_of_ble_eq_true rfl) (c_X8_isTime l hJ  _ a1) (fun _ => rfl) (fun r1 S2 h3 o4 => ?_)
  refine G_if_eq (q := 8) (t := 25) cx dX8_mean_5 rfl (by decide) (fun c5 => ?_) (fun c5 => ?_)
  · refine G_ldc2_w (q := 28) (v := (-9223372036854775808 : Int64)) cx dX8_mean_25 rfl (inG (inT 1271 (by decide +kernel)) rfl) ?_
    exact G_lret cx rfl dX8_mean_28 trivial
  refine G_aload_n (q := 9) cx dX8_mean_8 rfl rfl ?_
  refine G_iload_n (q := 10) cx dX8_mean_9 rfl rfl ?_
  refine G_iconst (q := 11) (v := (0 : Int32)) cx dX8_mean_10 rfl (by decide) ?_
  refine G_iconst (q := 12) (v := (1 : Int32)) cx dX8_mean_11 rfl (by decide) ?_
  refine G_callV (q := 15) (d' := 0) (f := 8) (i := 0) (As := [.int a2, .int (0 : Int32), .int (1 : Int32)]) (rest := []) (stk := fun r6 => [.int r6]) cx dX8_mean_12 rfl cf_8 (Nat.le_of_ble_eq_true rfl) ml_RX8_227 rfl rfl (Nat.le_of_ble_eq_true rfl) (Nat.le_of_ble_eq_true rfl) (Nat.le_of_ble_eq_true rfl) (c_X8_in l hJ  _ a2 (0 : Int32) (1 : Int32)) (fun _ => rfl) (fun r6 S7 h8 o9 => ?_)
  refine G_if_eq (q := 18) (t := 25) cx dX8_mean_15 rfl (by decide) (fun c10 => ?_) (fun c10 => ?_)
  · refine G_ldc2_w (q := 28) (v := (-9223372036854775808 : Int64)) cx dX8_mean_25 rfl (inG (inT 1271 (by decide +kernel)) rfl) ?_
    exact G_lret cx rfl dX8_mean_28 trivial
  refine G_aload_n (q := 19) cx dX8_mean_18 rfl rfl ?_
  refine G_geti (q := 22) cx dX8_mean_19 rfl cf_8 fl_RX8_7 (Nat.le_of_ble_eq_true rfl) rfl (Nat.le_of_ble_eq_true rfl) ?_
  refine G_if_ne (q := 25) (t := 29) cx dX8_mean_22 rfl (by decide) (fun c11 => ?_) (fun c11 => ?_)
  · refine G_iconst (q := 30) (v := (0 : Int32)) cx dX8_mean_29 rfl (by decide) ?_
    refine G_istore_n (q := 31) (ls' := [(3, .int (0 : Int32)), (0, .ref (ad 8 0)), (1, .int a1), (2, .int a2)]) cx dX8_mean_30 rfl rfl (Nat.le_of_ble_eq_true rfl) rfl ?_
    refine G_iconst (q := 32) (v := (0 : Int32)) cx dX8_mean_31 rfl (by decide) ?_
    refine G_istore (q := 34) (ls' := [(4, .int (0 : Int32)), (3, .int (0 : Int32)), (0, .ref (ad 8 0)), (1, .int a1), (2, .int a2)]) cx dX8_mean_32 rfl (Nat.le_of_ble_eq_true rfl) rfl ?_
    have lp_12 : ∀ (K_12 : Int32 → Int32 → St → Option (Int64 × St)) (hK_12 : ∀ (y3_12 : Int32) (y4_12 : Int32) (T_12 : St), TG p l e 6 s m ([.ref (ad 8 0), .int a1, .int a2] : List Value).toArray below meth c D cy ad nM toJ okT T_12 59 [(3, .int y3_12), (4, .int y4_12), (0, .ref (ad 8 0)), (1, .int a1), (2, .int a2)] [] (K_12 y3_12 y4_12 T_12)), ∀ (n_12 : Nat) (x3_12 : Int32) (x4_12 : Int32) (S_12 : St), TG p l e 6 s m ([.ref (ad 8 0), .int a1, .int a2] : List Value).toArray below meth c D cy ad nM toJ okT S_12 34 [(3, .int x3_12), (4, .int x4_12), (0, .ref (ad 8 0)), (1, .int a1), (2, .int a2)] [] (L_X8_mean_34 a1 K_12 n_12 x3_12 x4_12 S_12) := by
      intro K_12 hK_12 n_12
      induction n_12 with
      | zero => intros; exact G_none
      | succ n_12 ih_12 =>
        intro x3_12 x4_12 S_12
        rw [L_X8_mean_34.eq_2]
        refine G_iload (q := 36) cx dX8_mean_34 rfl rfl ?_
        refine G_aload_n (q := 37) cx dX8_mean_36 rfl rfl ?_
        refine G_geti (q := 40) cx dX8_mean_37 rfl cf_8 fl_RX8_7 (Nat.le_of_ble_eq_true rfl) rfl (Nat.le_of_ble_eq_true rfl) ?_
        refine G_icmp_ge (q := 43) (t := 59) cx dX8_mean_40 rfl (by decide) (fun c17 => ?_) (fun c17 => ?_)
        · exact G_loc [0, 1, 2, 3, 4] rfl (hK_12 x3_12 x4_12 S_12)
        refine G_iload_n (q := 44) cx dX8_mean_43 rfl rfl ?_
        refine G_aload_n (q := 45) cx dX8_mean_44 rfl rfl ?_
        refine G_iload (q := 47) cx dX8_mean_45 rfl rfl ?_
        refine G_iload_n (q := 48) cx dX8_mean_47 rfl rfl ?_
        refine G_callV (q := 51) (d' := 5) (f := 8) (i := 0) (As := [.int x4_12, .int a1]) (rest := [.int x3_12]) (stk := fun r18 => [.int r18, .int x3_12]) cx dX8_mean_48 rfl cf_8 (Nat.le_of_ble_eq_true rfl) ml_RX8_338 rfl rfl (Nat.le_of_ble_eq_true rfl) (Nat.le_of_ble_eq_true rfl) (Nat.le_of_ble_eq_true rfl) (c_X8_upOf l hJ  _ x4_12 a1) (fun _ => rfl) (fun r18 S19 h20 o21 => ?_)
        refine G_iadd (q := 52) cx dX8_mean_51 rfl ?_
        refine G_istore_n (q := 53) (ls' := [(3, .int (x3_12 + r18)), (4, .int x4_12), (0, .ref (ad 8 0)), (1, .int a1), (2, .int a2)]) cx dX8_mean_52 rfl rfl (Nat.le_of_ble_eq_true rfl) rfl ?_
        refine G_iinc (q := 56) (j := 1) (v := x4_12 + 1) (ls' := [(4, .int (x4_12 + 1)), (3, .int (x3_12 + r18)), (0, .ref (ad 8 0)), (1, .int a1), (2, .int a2)]) cx dX8_mean_53 rfl rfl rfl (Nat.le_of_ble_eq_true rfl) rfl ?_
        refine G_goto (t := 34) cx dX8_mean_56 (by decide) ?_
        exact G_loc [1, 0, 2, 3, 4] rfl (ih_12 (x3_12 + r18) (x4_12 + 1) S19)
    refine G_loc [1, 0, 2, 3, 4] rfl (lp_12 _ (fun y3_12 y4_12 T_12 => ?_) 1000 (0 : Int32) (0 : Int32) S7)
    refine G_aload_n (q := 60) cx dX8_mean_59 rfl rfl ?_
    refine G_iload_n (q := 61) cx dX8_mean_60 rfl rfl ?_
    refine G_aload_n (q := 62) cx dX8_mean_61 rfl rfl ?_
    refine G_geti (q := 65) cx dX8_mean_62 rfl cf_8 fl_RX8_7 (Nat.le_of_ble_eq_true rfl) rfl (Nat.le_of_ble_eq_true rfl) ?_
    refine G_iload_n (q := 66) cx dX8_mean_65 rfl rfl ?_
    refine G_callV (q := 69) (d' := 1) (f := 8) (i := 0) (As := [.int y3_12, .int (gI T_12 8 0 0), .int a2]) (rest := []) (stk := fun r13 => [.long r13]) cx dX8_mean_66 rfl cf_8 (Nat.le_of_ble_eq_true rfl) ml_RX8_369 rfl rfl (Nat.le_of_ble_eq_true rfl) (Nat.le_of_ble_eq_true rfl) (Nat.le_of_ble_eq_true rfl) (c_X8_lowestTerms l hJ  _ y3_12 (gI T_12 8 0 0) a2) (fun _ => rfl) (fun r13 S14 h15 o16 => ?_)
    exact G_lret cx rfl dX8_mean_69 trivial
  · refine G_ldc2_w (q := 28) (v := (-9223372036854775808 : Int64)) cx dX8_mean_25 rfl (inG (inT 1271 (by decide +kernel)) rfl) ?_
    exact G_lret cx rfl dX8_mean_28 trivial
def F_X8_book (S : St) (a1 : Int32) (a2 : Int32) : Option (Int32 × St) :=
  if a1 = (-1 : Int32) then (some ((0 : Int32), (sI S 8 0 41 (0 : Int32))))
  else (bnd (F_X8_isLift S a1) (fun r2 S3 =>
  if r2 = 0 then (some ((-1 : Int32), S3))
  else (bnd (F_X8_in S3 a2 (-99 : Int32) (99 : Int32)) (fun r7 S8 =>
  if r7 = 0 then (some ((-2 : Int32), S8))
  else (if (gI S8 8 0 41) = (8 : Int32) then (some ((-4 : Int32), S8))
  else (if 0 ≤ (gI S8 8 0 41) ∧ (gI S8 8 0 41).toNatClampNeg < 8 then (if 0 ≤ (gI (sI S8 40 0 (gI S8 8 0 41).toNatClampNeg a1) 8 0 41) ∧ (gI (sI S8 40 0 (gI S8 8 0 41).toNatClampNeg a1) 8 0 41).toNatClampNeg < 8 then (some (gI (sI (sI (sI S8 40 0 (gI S8 8 0 41).toNatClampNeg a1) 41 0 (gI (sI S8 40 0 (gI S8 8 0 41).toNatClampNeg a1) 8 0 41).toNatClampNeg a2) 8 0 41 ((gI (sI (sI S8 40 0 (gI S8 8 0 41).toNatClampNeg a1) 41 0 (gI (sI S8 40 0 (gI S8 8 0 41).toNatClampNeg a1) 8 0 41).toNatClampNeg a2) 8 0 41) + (1 : Int32))) 8 0 41, (sI (sI (sI S8 40 0 (gI S8 8 0 41).toNatClampNeg a1) 41 0 (gI (sI S8 40 0 (gI S8 8 0 41).toNatClampNeg a1) 8 0 41).toNatClampNeg a2) 8 0 41 ((gI (sI (sI S8 40 0 (gI S8 8 0 41).toNatClampNeg a1) 41 0 (gI (sI S8 40 0 (gI S8 8 0 41).toNatClampNeg a1) 8 0 41).toNatClampNeg a2) 8 0 41) + (1 : Int32)))))
  else none)
  else none))))))
set_option maxRecDepth 10000 in
theorem c_X8_book (l : Launch) {D : va_G} {cy : Nat → ClassId} {ad : Nat → Nat → Nat} (hJ : wJ ad nM) (S : St) (a1 : Int32) (a2 : Int32) : CT l yX8_book cX8_book 3 (some .int) 2 D cy ad nM toI okT [.ref (ad 8 0), .int a1, .int a2] S (F_X8_book S a1 a2) := by
  refine CT.of RX8 (by decide) rfl hJ (Nat.le_of_ble_eq_true rfl) rfl ?_
  intro p e s m below meth c cx
  unfold F_X8_book
  refine G_iload_n (q := 1) cx dX8_book_0 rfl rfl ?_
  refine G_iconst (q := 2) (v := (-1 : Int32)) cx dX8_book_1 rfl (by decide) ?_
  refine G_icmp_ne (q := 5) (t := 12) cx dX8_book_2 rfl (by decide) (fun c1 => ?_) (fun c1 => ?_)
  · refine G_aload_n (q := 13) cx dX8_book_12 rfl rfl ?_
    refine G_iload_n (q := 14) cx dX8_book_13 rfl rfl ?_
    refine G_callV (q := 17) (d' := 1) (f := 8) (i := 0) (As := [.int a1]) (rest := []) (stk := fun r2 => [.int r2]) cx dX8_book_14 rfl cf_8 (Nat.le_of_ble_eq_true rfl) ml_RX8_235 rfl rfl (Nat.le_of_ble_eq_true rfl) (Nat.le_of_ble_eq_true rfl) (Nat.le_of_ble_eq_true rfl) (c_X8_isLift l hJ  _ a1) (fun _ => rfl) (fun r2 S3 h4 o5 => ?_)
    refine G_if_ne (q := 20) (t := 22) cx dX8_book_17 rfl (by decide) (fun c6 => ?_) (fun c6 => ?_)
    · refine G_aload_n (q := 23) cx dX8_book_22 rfl rfl ?_
      refine G_iload_n (q := 24) cx dX8_book_23 rfl rfl ?_
      refine G_bipush (q := 26) (v := (-99 : Int32)) cx dX8_book_24 rfl (by decide) ?_
      refine G_bipush (q := 28) (v := (99 : Int32)) cx dX8_book_26 rfl (by decide) ?_
      refine G_callV (q := 31) (d' := 0) (f := 8) (i := 0) (As := [.int a2, .int (-99 : Int32), .int (99 : Int32)]) (rest := []) (stk := fun r7 => [.int r7]) cx dX8_book_28 rfl cf_8 (Nat.le_of_ble_eq_true rfl) ml_RX8_227 rfl rfl (Nat.le_of_ble_eq_true rfl) (Nat.le_of_ble_eq_true rfl) (Nat.le_of_ble_eq_true rfl) (c_X8_in l hJ  _ a2 (-99 : Int32) (99 : Int32)) (fun _ => rfl) (fun r7 S8 h9 o10 => ?_)
      refine G_if_ne (q := 34) (t := 37) cx dX8_book_31 rfl (by decide) (fun c11 => ?_) (fun c11 => ?_)
      · refine G_aload_n (q := 38) cx dX8_book_37 rfl rfl ?_
        refine G_geti (q := 41) cx dX8_book_38 rfl cf_8 fl_RX8_135 (Nat.le_of_ble_eq_true rfl) rfl (Nat.le_of_ble_eq_true rfl) ?_
        refine G_bipush (q := 43) (v := (8 : Int32)) cx dX8_book_41 rfl (by decide) ?_
        refine G_icmp_ne (q := 46) (t := 49) cx dX8_book_43 rfl (by decide) (fun c12 => ?_) (fun c12 => ?_)
        · refine G_aload_n (q := 50) cx dX8_book_49 rfl rfl ?_
          refine G_getr (q := 53) (g := 40) (i' := 0) cx dX8_book_50 rfl cf_8 fl_RX8_138 (Nat.le_of_ble_eq_true rfl) rfl rfl (Nat.le_of_ble_eq_true rfl) ?_
          refine G_aload_n (q := 54) cx dX8_book_53 rfl rfl ?_
          refine G_geti (q := 57) cx dX8_book_54 rfl cf_8 fl_RX8_135 (Nat.le_of_ble_eq_true rfl) rfl (Nat.le_of_ble_eq_true rfl) ?_
          refine G_iload_n (q := 58) cx dX8_book_57 rfl rfl ?_
          refine G_iast (q := 59) cx dX8_book_58 rfl (by decide) rfl rfl (Nat.le_of_ble_eq_true rfl) (fun g13 g14 => ?_)
          refine G_aload_n (q := 60) cx dX8_book_59 rfl rfl ?_
          refine G_getr (q := 63) (g := 41) (i' := 0) cx dX8_book_60 rfl cf_8 fl_RX8_141 (Nat.le_of_ble_eq_true rfl) rfl rfl (Nat.le_of_ble_eq_true rfl) ?_
          refine G_aload_n (q := 64) cx dX8_book_63 rfl rfl ?_
          refine G_geti (q := 67) cx dX8_book_64 rfl cf_8 fl_RX8_135 (Nat.le_of_ble_eq_true rfl) rfl (Nat.le_of_ble_eq_true rfl) ?_
          refine G_iload_n (q := 68) cx dX8_book_67 rfl rfl ?_
          refine G_iast (q := 69) cx dX8_book_68 rfl (by decide) rfl rfl (Nat.le_of_ble_eq_true rfl) (fun g15 g16 => ?_)
          refine G_aload_n (q := 70) cx dX8_book_69 rfl rfl ?_
          refine G_dup (q := 71) cx dX8_book_70 rfl rfl ?_
          refine G_geti (q := 74) cx dX8_book_71 rfl cf_8 fl_RX8_135 (Nat.le_of_ble_eq_true rfl) rfl (Nat.le_of_ble_eq_true rfl) ?_
          refine G_iconst (q := 75) (v := (1 : Int32)) cx dX8_book_74 rfl (by decide) ?_
          refine G_iadd (q := 76) cx dX8_book_75 rfl ?_
          refine G_puti (q := 79) cx dX8_book_76 rfl cf_8 fl_RX8_135 (Nat.le_of_ble_eq_true rfl) rfl rfl rfl rfl rfl (Nat.le_of_ble_eq_true rfl) ?_
          refine G_aload_n (q := 80) cx dX8_book_79 rfl rfl ?_
          refine G_geti (q := 83) cx dX8_book_80 rfl cf_8 fl_RX8_135 (Nat.le_of_ble_eq_true rfl) rfl (Nat.le_of_ble_eq_true rfl) ?_
          exact G_iret cx rfl dX8_book_83 trivial
        · refine G_bipush (q := 48) (v := (-4 : Int32)) cx dX8_book_46 rfl (by decide) ?_
          exact G_iret cx rfl dX8_book_48 trivial
      · refine G_bipush (q := 36) (v := (-2 : Int32)) cx dX8_book_34 rfl (by decide) ?_
        exact G_iret cx rfl dX8_book_36 trivial
    · refine G_iconst (q := 21) (v := (-1 : Int32)) cx dX8_book_20 rfl (by decide) ?_
      exact G_iret cx rfl dX8_book_21 trivial
  refine G_aload_n (q := 6) cx dX8_book_5 rfl rfl ?_
  refine G_iconst (q := 7) (v := (0 : Int32)) cx dX8_book_6 rfl (by decide) ?_
  refine G_puti (q := 10) cx dX8_book_7 rfl cf_8 fl_RX8_135 (Nat.le_of_ble_eq_true rfl) rfl rfl rfl rfl rfl (Nat.le_of_ble_eq_true rfl) ?_
  refine G_iconst (q := 11) (v := (0 : Int32)) cx dX8_book_10 rfl (by decide) ?_
  exact G_iret cx rfl dX8_book_11 trivial
def L_X8_looked_2 (K_1 : Int32 → St → Option (Int32 × St)) : Nat → Int32 → St → Option (Int32 × St)
  | 0, _, _ => none
  | n + 1, x1_1, S_1 =>
    if (gI S_1 8 0 41) ≤ x1_1 then (K_1 x1_1 S_1)
    else (if 0 ≤ x1_1 ∧ x1_1.toNatClampNeg < 8 then (bnd (F_X8_climb S_1 (gI S_1 40 0 x1_1.toNatClampNeg)) (fun r5 S6 =>
    if 0 ≤ x1_1 ∧ x1_1.toNatClampNeg < 8 then (if r5 = (gI S6 41 0 x1_1.toNatClampNeg) then (L_X8_looked_2 K_1 n (x1_1 + 1) S6)
    else (some (x1_1, S6)))
    else none))
    else none)
def F_X8_looked (S : St) : Option (Int32 × St) :=
  L_X8_looked_2 
  (fun y1_1 T_1 => some ((-5 : Int32), T_1)) 1000 (0 : Int32) S
set_option maxRecDepth 10000 in
theorem c_X8_looked (l : Launch) {D : va_G} {cy : Nat → ClassId} {ad : Nat → Nat → Nat} (hJ : wJ ad nM) (S : St) : CT l yX8_looked cX8_looked 2 (some .int) 4 D cy ad nM toI okT [.ref (ad 8 0)] S (F_X8_looked S) := by
  refine CT.of RX8 (by decide) rfl hJ (Nat.le_of_ble_eq_true rfl) rfl ?_
  intro p e s m below meth c cx
  unfold F_X8_looked
  refine G_iconst (q := 1) (v := (0 : Int32)) cx dX8_looked_0 rfl (by decide) ?_
  refine G_istore_n (q := 2) (ls' := [(1, .int (0 : Int32)), (0, .ref (ad 8 0))]) cx dX8_looked_1 rfl rfl (Nat.le_of_ble_eq_true rfl) rfl ?_
  have lp_1 : ∀ (K_1 : Int32 → St → Option (Int32 × St)) (hK_1 : ∀ (y1_1 : Int32) (T_1 : St), TG p l e 4 s m ([.ref (ad 8 0)] : List Value).toArray below meth c D cy ad nM toI okT T_1 37 [(1, .int y1_1), (0, .ref (ad 8 0))] [] (K_1 y1_1 T_1)), ∀ (n_1 : Nat) (x1_1 : Int32) (S_1 : St), TG p l e 4 s m ([.ref (ad 8 0)] : List Value).toArray below meth c D cy ad nM toI okT S_1 2 [(1, .int x1_1), (0, .ref (ad 8 0))] [] (L_X8_looked_2 K_1 n_1 x1_1 S_1) := by
    intro K_1 hK_1 n_1
    induction n_1 with
    | zero => intros; exact G_none
    | succ n_1 ih_1 =>
      intro x1_1 S_1
      rw [L_X8_looked_2.eq_2]
      refine G_iload_n (q := 3) cx dX8_looked_2 rfl rfl ?_
      refine G_aload_n (q := 4) cx dX8_looked_3 rfl rfl ?_
      refine G_geti (q := 7) cx dX8_looked_4 rfl cf_8 fl_RX8_135 (Nat.le_of_ble_eq_true rfl) rfl (Nat.le_of_ble_eq_true rfl) ?_
      refine G_icmp_ge (q := 10) (t := 37) cx dX8_looked_7 rfl (by decide) (fun c2 => ?_) (fun c2 => ?_)
      · exact G_loc [0, 1] rfl (hK_1 x1_1 S_1)
      refine G_aload_n (q := 11) cx dX8_looked_10 rfl rfl ?_
      refine G_aload_n (q := 12) cx dX8_looked_11 rfl rfl ?_
      refine G_getr (q := 15) (g := 40) (i' := 0) cx dX8_looked_12 rfl cf_8 fl_RX8_138 (Nat.le_of_ble_eq_true rfl) rfl rfl (Nat.le_of_ble_eq_true rfl) ?_
      refine G_iload_n (q := 16) cx dX8_looked_15 rfl rfl ?_
      refine G_iald (q := 17) cx dX8_looked_16 rfl (by decide) rfl rfl (Nat.le_of_ble_eq_true rfl) (fun g3 g4 => ?_)
      refine G_callV (q := 20) (d' := 3) (f := 8) (i := 0) (As := [.int (gI S_1 40 0 x1_1.toNatClampNeg)]) (rest := []) (stk := fun r5 => [.int r5]) cx dX8_looked_17 rfl cf_8 (Nat.le_of_ble_eq_true rfl) ml_RX8_304 rfl rfl (Nat.le_of_ble_eq_true rfl) (Nat.le_of_ble_eq_true rfl) (Nat.le_of_ble_eq_true rfl) (c_X8_climb l hJ  _ (gI S_1 40 0 x1_1.toNatClampNeg)) (fun _ => rfl) (fun r5 S6 h7 o8 => ?_)
      refine G_aload_n (q := 21) cx dX8_looked_20 rfl rfl ?_
      refine G_getr (q := 24) (g := 41) (i' := 0) cx dX8_looked_21 rfl cf_8 fl_RX8_141 (Nat.le_of_ble_eq_true rfl) rfl rfl (Nat.le_of_ble_eq_true rfl) ?_
      refine G_iload_n (q := 25) cx dX8_looked_24 rfl rfl ?_
      refine G_iald (q := 26) cx dX8_looked_25 rfl (by decide) rfl rfl (Nat.le_of_ble_eq_true rfl) (fun g9 g10 => ?_)
      refine G_icmp_eq (q := 29) (t := 31) cx dX8_looked_26 rfl (by decide) (fun c11 => ?_) (fun c11 => ?_)
      · refine G_iinc (q := 34) (j := 0) (v := x1_1 + 1) (ls' := [(1, .int (x1_1 + 1)), (0, .ref (ad 8 0))]) cx dX8_looked_31 rfl rfl rfl (Nat.le_of_ble_eq_true rfl) rfl ?_
        refine G_goto (t := 2) cx dX8_looked_34 (by decide) ?_
        exact G_loc [0, 1] rfl (ih_1 (x1_1 + 1) S6)
      · refine G_iload_n (q := 30) cx dX8_looked_29 rfl rfl ?_
        exact G_iret cx rfl dX8_looked_30 trivial
  refine G_loc [0, 1] rfl (lp_1 _ (fun y1_1 T_1 => ?_) 1000 (0 : Int32) S)
  refine G_bipush (q := 39) (v := (-5 : Int32)) cx dX8_looked_37 rfl (by decide) ?_
  exact G_iret cx rfl dX8_looked_39 trivial
def F_X8_isTape (S : St) (a1 : Int32) : Option (Int32 × St) :=
  bnd (F_X8_in S a1 (0 : Int32) (5 : Int32)) (fun r1 S2 =>
  some (r1, S2))
set_option maxRecDepth 10000 in
theorem c_X8_isTape (l : Launch) {D : va_G} {cy : Nat → ClassId} {ad : Nat → Nat → Nat} (hJ : wJ ad nM) (S : St) (a1 : Int32) : CT l yX8_isTape cX8_isTape 2 (some .boolean) 1 D cy ad nM toI okZ [.ref (ad 8 0), .int a1] S (F_X8_isTape S a1) := by
  refine CT.of RX8 (by decide) rfl hJ (Nat.le_of_ble_eq_true rfl) rfl ?_
  intro p e s m below meth c cx
  unfold F_X8_isTape
  refine G_aload_n (q := 1) cx dX8_isTape_0 rfl rfl ?_
  refine G_iload_n (q := 2) cx dX8_isTape_1 rfl rfl ?_
  refine G_iconst (q := 3) (v := (0 : Int32)) cx dX8_isTape_2 rfl (by decide) ?_
  refine G_iconst (q := 4) (v := (5 : Int32)) cx dX8_isTape_3 rfl (by decide) ?_
  refine G_callV (q := 7) (d' := 0) (f := 8) (i := 0) (As := [.int a1, .int (0 : Int32), .int (5 : Int32)]) (rest := []) (stk := fun r1 => [.int r1]) cx dX8_isTape_4 rfl cf_8 (Nat.le_of_ble_eq_true rfl) ml_RX8_227 rfl rfl (Nat.le_of_ble_eq_true rfl) (Nat.le_of_ble_eq_true rfl) (Nat.le_of_ble_eq_true rfl) (c_X8_in l hJ  _ a1 (0 : Int32) (5 : Int32)) (fun _ => rfl) (fun r1 S2 h3 o4 => ?_)
  exact G_zret (ty := .boolean) cx rfl dX8_isTape_7 o4 o4
def L_X8_judge_24 (a1 : Int32) (a2 : Int32) (K_9 : Int32 → St → Option (Int32 × St)) : Nat → Int32 → St → Option (Int32 × St)
  | 0, _, _ => none
  | n + 1, x3_9, S_9 =>
    if (gI S_9 8 0 0) ≤ x3_9 then (K_9 x3_9 S_9)
    else (if 0 ≤ a1 ∧ a1.toNatClampNeg < 6 then (if (gI S_9 53 0 a1.toNatClampNeg) < 0 then (some ((100 : Int32) + x3_9, S_9))
    else (if a2 < 0 then (some ((100 : Int32) + x3_9, S_9))
    else (if 0 ≤ a1 ∧ a1.toNatClampNeg < 6 then (if a2 ≤ (((gI S_9 54 0 a1.toNatClampNeg) - x3_9) - (1 : Int32)) then (if 0 ≤ ((((60 : Int32) * a1) + a2) + x3_9) ∧ ((((60 : Int32) * a1) + a2) + x3_9).toNatClampNeg < 360 then (if 0 ≤ x3_9 ∧ x3_9.toNatClampNeg < 6 then (if (lg_cmp (gJ S_9 55 0 ((((60 : Int32) * a1) + a2) + x3_9).toNatClampNeg) ((gI S_9 24 0 x3_9.toNatClampNeg).toInt64)) = 0 then (L_X8_judge_24 a1 a2 K_9 n (x3_9 + 1) S_9)
    else (some (x3_9, S_9)))
    else none)
    else none)
    else (some ((100 : Int32) + x3_9, S_9)))
    else none)))
    else none)
def F_X8_judge (S : St) (a1 : Int32) (a2 : Int32) : Option (Int32 × St) :=
  bnd (F_X8_isTape S a1) (fun r1 S2 =>
  if r1 = 0 then (some ((-1 : Int32), S2))
  else (if 0 ≤ a1 ∧ a1.toNatClampNeg < 6 then (if (gI S2 53 0 a1.toNatClampNeg) ≤ 0 then (L_X8_judge_24 a1 a2 
  (fun y3_9 T_9 => some ((-5 : Int32), T_9)) 1000 (0 : Int32) S2)
  else (some ((-12 : Int32), S2)))
  else none))
set_option maxRecDepth 10000 in
theorem c_X8_judge (l : Launch) {D : va_G} {cy : Nat → ClassId} {ad : Nat → Nat → Nat} (hJ : wJ ad nM) (S : St) (a1 : Int32) (a2 : Int32) : CT l yX8_judge cX8_judge 4 (some .int) 2 D cy ad nM toI okT [.ref (ad 8 0), .int a1, .int a2] S (F_X8_judge S a1 a2) := by
  refine CT.of RX8 (by decide) rfl hJ (Nat.le_of_ble_eq_true rfl) rfl ?_
  intro p e s m below meth c cx
  unfold F_X8_judge
  refine G_aload_n (q := 1) cx dX8_judge_0 rfl rfl ?_
  refine G_iload_n (q := 2) cx dX8_judge_1 rfl rfl ?_
  refine G_callV (q := 5) (d' := 1) (f := 8) (i := 0) (As := [.int a1]) (rest := []) (stk := fun r1 => [.int r1]) cx dX8_judge_2 rfl cf_8 (Nat.le_of_ble_eq_true rfl) ml_RX8_373 rfl rfl (Nat.le_of_ble_eq_true rfl) (Nat.le_of_ble_eq_true rfl) (Nat.le_of_ble_eq_true rfl) (c_X8_isTape l hJ  _ a1) (fun _ => rfl) (fun r1 S2 h3 o4 => ?_)
  refine G_if_ne (q := 8) (t := 10) cx dX8_judge_5 rfl (by decide) (fun c5 => ?_) (fun c5 => ?_)
  · refine G_aload_n (q := 11) cx dX8_judge_10 rfl rfl ?_
    refine G_getr (q := 14) (g := 53) (i' := 0) cx dX8_judge_11 rfl cf_8 fl_RX8_214 (Nat.le_of_ble_eq_true rfl) rfl rfl (Nat.le_of_ble_eq_true rfl) ?_
    refine G_iload_n (q := 15) cx dX8_judge_14 rfl rfl ?_
    refine G_iald (q := 16) cx dX8_judge_15 rfl (by decide) rfl rfl (Nat.le_of_ble_eq_true rfl) (fun g6 g7 => ?_)
    refine G_if_le (q := 19) (t := 22) cx dX8_judge_16 rfl (by decide) (fun c8 => ?_) (fun c8 => ?_)
    · refine G_iconst (q := 23) (v := (0 : Int32)) cx dX8_judge_22 rfl (by decide) ?_
      refine G_istore_n (q := 24) (ls' := [(3, .int (0 : Int32)), (0, .ref (ad 8 0)), (1, .int a1), (2, .int a2)]) cx dX8_judge_23 rfl rfl (Nat.le_of_ble_eq_true rfl) rfl ?_
      have lp_9 : ∀ (K_9 : Int32 → St → Option (Int32 × St)) (hK_9 : ∀ (y3_9 : Int32) (T_9 : St), TG p l e 2 s m ([.ref (ad 8 0), .int a1, .int a2] : List Value).toArray below meth c D cy ad nM toI okT T_9 96 [(3, .int y3_9), (0, .ref (ad 8 0)), (1, .int a1), (2, .int a2)] [] (K_9 y3_9 T_9)), ∀ (n_9 : Nat) (x3_9 : Int32) (S_9 : St), TG p l e 2 s m ([.ref (ad 8 0), .int a1, .int a2] : List Value).toArray below meth c D cy ad nM toI okT S_9 24 [(3, .int x3_9), (0, .ref (ad 8 0)), (1, .int a1), (2, .int a2)] [] (L_X8_judge_24 a1 a2 K_9 n_9 x3_9 S_9) := by
        intro K_9 hK_9 n_9
        induction n_9 with
        | zero => intros; exact G_none
        | succ n_9 ih_9 =>
          intro x3_9 S_9
          rw [L_X8_judge_24.eq_2]
          refine G_iload_n (q := 25) cx dX8_judge_24 rfl rfl ?_
          refine G_aload_n (q := 26) cx dX8_judge_25 rfl rfl ?_
          refine G_geti (q := 29) cx dX8_judge_26 rfl cf_8 fl_RX8_7 (Nat.le_of_ble_eq_true rfl) rfl (Nat.le_of_ble_eq_true rfl) ?_
          refine G_icmp_ge (q := 32) (t := 96) cx dX8_judge_29 rfl (by decide) (fun c10 => ?_) (fun c10 => ?_)
          · exact G_loc [0, 1, 2, 3] rfl (hK_9 x3_9 S_9)
          refine G_aload_n (q := 33) cx dX8_judge_32 rfl rfl ?_
          refine G_getr (q := 36) (g := 53) (i' := 0) cx dX8_judge_33 rfl cf_8 fl_RX8_214 (Nat.le_of_ble_eq_true rfl) rfl rfl (Nat.le_of_ble_eq_true rfl) ?_
          refine G_iload_n (q := 37) cx dX8_judge_36 rfl rfl ?_
          refine G_iald (q := 38) cx dX8_judge_37 rfl (by decide) rfl rfl (Nat.le_of_ble_eq_true rfl) (fun g11 g12 => ?_)
          refine G_if_lt (q := 41) (t := 59) cx dX8_judge_38 rfl (by decide) (fun c13 => ?_) (fun c13 => ?_)
          · refine G_bipush (q := 61) (v := (100 : Int32)) cx dX8_judge_59 rfl (by decide) ?_
            refine G_iload_n (q := 62) cx dX8_judge_61 rfl rfl ?_
            refine G_iadd (q := 63) cx dX8_judge_62 rfl ?_
            exact G_iret cx rfl dX8_judge_63 trivial
          refine G_iload_n (q := 42) cx dX8_judge_41 rfl rfl ?_
          refine G_if_lt (q := 45) (t := 59) cx dX8_judge_42 rfl (by decide) (fun c14 => ?_) (fun c14 => ?_)
          · refine G_bipush (q := 61) (v := (100 : Int32)) cx dX8_judge_59 rfl (by decide) ?_
            refine G_iload_n (q := 62) cx dX8_judge_61 rfl rfl ?_
            refine G_iadd (q := 63) cx dX8_judge_62 rfl ?_
            exact G_iret cx rfl dX8_judge_63 trivial
          refine G_iload_n (q := 46) cx dX8_judge_45 rfl rfl ?_
          refine G_aload_n (q := 47) cx dX8_judge_46 rfl rfl ?_
          refine G_getr (q := 50) (g := 54) (i' := 0) cx dX8_judge_47 rfl cf_8 fl_RX8_217 (Nat.le_of_ble_eq_true rfl) rfl rfl (Nat.le_of_ble_eq_true rfl) ?_
          refine G_iload_n (q := 51) cx dX8_judge_50 rfl rfl ?_
          refine G_iald (q := 52) cx dX8_judge_51 rfl (by decide) rfl rfl (Nat.le_of_ble_eq_true rfl) (fun g15 g16 => ?_)
          refine G_iload_n (q := 53) cx dX8_judge_52 rfl rfl ?_
          refine G_isub (q := 54) cx dX8_judge_53 rfl ?_
          refine G_iconst (q := 55) (v := (1 : Int32)) cx dX8_judge_54 rfl (by decide) ?_
          refine G_isub (q := 56) cx dX8_judge_55 rfl ?_
          refine G_icmp_le (q := 59) (t := 64) cx dX8_judge_56 rfl (by decide) (fun c17 => ?_) (fun c17 => ?_)
          · refine G_aload_n (q := 65) cx dX8_judge_64 rfl rfl ?_
            refine G_getr (q := 68) (g := 55) (i' := 0) cx dX8_judge_65 rfl cf_8 fl_RX8_220 (Nat.le_of_ble_eq_true rfl) rfl rfl (Nat.le_of_ble_eq_true rfl) ?_
            refine G_bipush (q := 70) (v := (60 : Int32)) cx dX8_judge_68 rfl (by decide) ?_
            refine G_iload_n (q := 71) cx dX8_judge_70 rfl rfl ?_
            refine G_imul (q := 72) cx dX8_judge_71 rfl ?_
            refine G_iload_n (q := 73) cx dX8_judge_72 rfl rfl ?_
            refine G_iadd (q := 74) cx dX8_judge_73 rfl ?_
            refine G_iload_n (q := 75) cx dX8_judge_74 rfl rfl ?_
            refine G_iadd (q := 76) cx dX8_judge_75 rfl ?_
            refine G_lald (q := 77) cx dX8_judge_76 rfl (by decide) rfl rfl (Nat.le_of_ble_eq_true rfl) (fun g18 g19 => ?_)
            refine G_aload_n (q := 78) cx dX8_judge_77 rfl rfl ?_
            refine G_getr (q := 81) (g := 24) (i' := 0) cx dX8_judge_78 rfl cf_8 fl_RX8_35 (Nat.le_of_ble_eq_true rfl) rfl rfl (Nat.le_of_ble_eq_true rfl) ?_
            refine G_iload_n (q := 82) cx dX8_judge_81 rfl rfl ?_
            refine G_iald (q := 83) cx dX8_judge_82 rfl (by decide) rfl rfl (Nat.le_of_ble_eq_true rfl) (fun g20 g21 => ?_)
            refine G_i2l (q := 84) cx dX8_judge_83 rfl ?_
            refine G_lcmp (q := 85) cx dX8_judge_84 rfl ?_
            refine G_if_eq (q := 88) (t := 90) cx dX8_judge_85 rfl (by decide) (fun c22 => ?_) (fun c22 => ?_)
            · refine G_iinc (q := 93) (j := 0) (v := x3_9 + 1) (ls' := [(3, .int (x3_9 + 1)), (0, .ref (ad 8 0)), (1, .int a1), (2, .int a2)]) cx dX8_judge_90 rfl rfl rfl (Nat.le_of_ble_eq_true rfl) rfl ?_
              refine G_goto (t := 24) cx dX8_judge_93 (by decide) ?_
              exact G_loc [0, 1, 2, 3] rfl (ih_9 (x3_9 + 1) S_9)
            · refine G_iload_n (q := 89) cx dX8_judge_88 rfl rfl ?_
              exact G_iret cx rfl dX8_judge_89 trivial
          refine G_bipush (q := 61) (v := (100 : Int32)) cx dX8_judge_59 rfl (by decide) ?_
          refine G_iload_n (q := 62) cx dX8_judge_61 rfl rfl ?_
          refine G_iadd (q := 63) cx dX8_judge_62 rfl ?_
          exact G_iret cx rfl dX8_judge_63 trivial
      refine G_loc [0, 1, 2, 3] rfl (lp_9 _ (fun y3_9 T_9 => ?_) 1000 (0 : Int32) S2)
      refine G_bipush (q := 98) (v := (-5 : Int32)) cx dX8_judge_96 rfl (by decide) ?_
      exact G_iret cx rfl dX8_judge_98 trivial
    · refine G_bipush (q := 21) (v := (-12 : Int32)) cx dX8_judge_19 rfl (by decide) ?_
      exact G_iret cx rfl dX8_judge_21 trivial
  · refine G_iconst (q := 9) (v := (-1 : Int32)) cx dX8_judge_8 rfl (by decide) ?_
    exact G_iret cx rfl dX8_judge_9 trivial
