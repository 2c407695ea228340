def L_X8_goesText_15 (a1 : Int32) (K_1 : Int32 → St → Option (Int32 × St)) : Nat → Int32 → St → Option (Int32 × St)
  | 0, _, _ => none
  | n + 1, x2_1, S_1 =>
    bnd (F_X8_takesClause S_1 (((10 : Int32) * a1) + x2_1)) (fun r2 S3 =>
    if r2 = 0 then (some ((0 : Int32), S3))
    else (if 0 ≤ a1 ∧ a1.toNatClampNeg < 6 then (if (gI (sI S3 28 0 a1.toNatClampNeg (x2_1 + 1)) 8 0 14) = (gI (sI S3 28 0 a1.toNatClampNeg (x2_1 + 1)) 8 0 13) then (some ((1 : Int32), (sI S3 28 0 a1.toNatClampNeg (x2_1 + 1))))
    else (if (x2_1 + 1) = (10 : Int32) then (K_1 (x2_1 + 1) (sI S3 28 0 a1.toNatClampNeg (x2_1 + 1)))
    else (bnd (F_X8_takes (sI S3 28 0 a1.toNatClampNeg (x2_1 + 1)) (59 : Int32)) (fun r11 S12 =>
    if r11 = 0 then (K_1 (x2_1 + 1) S12)
    else (L_X8_goesText_15 a1 K_1 n (x2_1 + 1) S12)))))
    else none))
def F_X8_goesText (S : St) (a1 : Int32) : Option (Int32 × St) :=
  L_X8_goesText_15 a1 
  (fun y2_1 T_1 => some ((0 : Int32), T_1)) 1000 (0 : Int32) (sI (sI S 8 0 14 (0 : Int32)) 8 0 24 ((100 : Int32) * a1))
set_option maxRecDepth 10000 in
theorem c_X8_goesText (l : Launch) {D : va_G} {cy : Nat → ClassId} {ad : Nat → Nat → Nat} (hJ : wJ ad nM) (S : St) (a1 : Int32) : CT l yX8_goesText cX8_goesText 3 (some .boolean) 6 D cy ad nM toI okZ [.ref (ad 8 0), .int a1] S (F_X8_goesText S a1) := by
  refine CT.of RX8 (by decide) rfl hJ (Nat.le_of_ble_eq_true rfl) rfl ?_
  intro p e s m below meth c cx
  unfold F_X8_goesText
  refine G_aload_n (q := 1) cx dX8_goesText_0 rfl rfl ?_
  refine G_iconst (q := 2) (v := (0 : Int32)) cx dX8_goesText_1 rfl (by decide) ?_
  refine G_puti (q := 5) cx dX8_goesText_2 rfl cf_8 fl_RX8_53 (Nat.le_of_ble_eq_true rfl) rfl rfl rfl rfl rfl (Nat.le_of_ble_eq_true rfl) ?_
  refine G_aload_n (q := 6) cx dX8_goesText_5 rfl rfl ?_
  refine G_bipush (q := 8) (v := (100 : Int32)) cx dX8_goesText_6 rfl (by decide) ?_
  refine G_iload_n (q := 9) cx dX8_goesText_8 rfl rfl ?_
  refine G_imul (q := 10) cx dX8_goesText_9 rfl ?_
  refine G_puti (q := 13) cx dX8_goesText_10 rfl cf_8 fl_RX8_83 (Nat.le_of_ble_eq_true rfl) rfl rfl rfl rfl rfl (Nat.le_of_ble_eq_true rfl) ?_
  refine G_iconst (q := 14) (v := (0 : Int32)) cx dX8_goesText_13 rfl (by decide) ?_
  refine G_istore_n (q := 15) (ls' := [(2, .int (0 : Int32)), (0, .ref (ad 8 0)), (1, .int a1)]) cx dX8_goesText_14 rfl rfl (Nat.le_of_ble_eq_true rfl) rfl ?_
  have lp_1 : ∀ (K_1 : Int32 → St → Option (Int32 × St)) (hK_1 : ∀ (y2_1 : Int32) (T_1 : St), TG p l e 6 s m ([.ref (ad 8 0), .int a1] : List Value).toArray below meth c D cy ad nM toI okZ T_1 68 [(2, .int y2_1), (0, .ref (ad 8 0)), (1, .int a1)] [] (K_1 y2_1 T_1)), ∀ (n_1 : Nat) (x2_1 : Int32) (S_1 : St), TG p l e 6 s m ([.ref (ad 8 0), .int a1] : List Value).toArray below meth c D cy ad nM toI okZ S_1 15 [(2, .int x2_1), (0, .ref (ad 8 0)), (1, .int a1)] [] (L_X8_goesText_15 a1 K_1 n_1 x2_1 S_1) := by
    intro K_1 hK_1 n_1
    induction n_1 with
    | zero => intros; exact G_none
    | succ n_1 ih_1 =>
      intro x2_1 S_1
      rw [L_X8_goesText_15.eq_2]
      refine G_aload_n (q := 16) cx dX8_goesText_15 rfl rfl ?_
      refine G_bipush (q := 18) (v := (10 : Int32)) cx dX8_goesText_16 rfl (by decide) ?_
      refine G_iload_n (q := 19) cx dX8_goesText_18 rfl rfl ?_
      refine G_imul (q := 20) cx dX8_goesText_19 rfl ?_
      refine G_iload_n (q := 21) cx dX8_goesText_20 rfl rfl ?_
      refine G_iadd (q := 22) cx dX8_goesText_21 rfl ?_
      refine G_callV (q := 25) (d' := 5) (f := 8) (i := 0) (As := [.int (((10 : Int32) * a1) + x2_1)]) (rest := []) (stk := fun r2 => [.int r2]) cx dX8_goesText_22 rfl cf_8 (Nat.le_of_ble_eq_true rfl) ml_RX8_279 rfl rfl (Nat.le_of_ble_eq_true rfl) (Nat.le_of_ble_eq_true rfl) (Nat.le_of_ble_eq_true rfl) (c_X8_takesClause l hJ  _ (((10 : Int32) * a1) + x2_1)) (fun _ => rfl) (fun r2 S3 h4 o5 => ?_)
      refine G_if_ne (q := 28) (t := 30) cx dX8_goesText_25 rfl (by decide) (fun c6 => ?_) (fun c6 => ?_)
      · refine G_iinc (q := 33) (j := 0) (v := x2_1 + 1) (ls' := [(2, .int (x2_1 + 1)), (0, .ref (ad 8 0)), (1, .int a1)]) cx dX8_goesText_30 rfl rfl rfl (Nat.le_of_ble_eq_true rfl) rfl ?_
        refine G_aload_n (q := 34) cx dX8_goesText_33 rfl rfl ?_
        refine G_getr (q := 37) (g := 28) (i' := 0) cx dX8_goesText_34 rfl cf_8 fl_RX8_62 (Nat.le_of_ble_eq_true rfl) rfl rfl (Nat.le_of_ble_eq_true rfl) ?_
        refine G_iload_n (q := 38) cx dX8_goesText_37 rfl rfl ?_
        refine G_iload_n (q := 39) cx dX8_goesText_38 rfl rfl ?_
        refine G_iast (q := 40) cx dX8_goesText_39 rfl (by decide) rfl rfl (Nat.le_of_ble_eq_true rfl) (fun g7 g8 => ?_)
        refine G_aload_n (q := 41) cx dX8_goesText_40 rfl rfl ?_
        refine G_geti (q := 44) cx dX8_goesText_41 rfl cf_8 fl_RX8_53 (Nat.le_of_ble_eq_true rfl) rfl (Nat.le_of_ble_eq_true rfl) ?_
        refine G_aload_n (q := 45) cx dX8_goesText_44 rfl rfl ?_
        refine G_geti (q := 48) cx dX8_goesText_45 rfl cf_8 fl_RX8_50 (Nat.le_of_ble_eq_true rfl) rfl (Nat.le_of_ble_eq_true rfl) ?_
        refine G_icmp_ne (q := 51) (t := 53) cx dX8_goesText_48 rfl (by decide) (fun c9 => ?_) (fun c9 => ?_)
        · refine G_iload_n (q := 54) cx dX8_goesText_53 rfl rfl ?_
          refine G_bipush (q := 56) (v := (10 : Int32)) cx dX8_goesText_54 rfl (by decide) ?_
          refine G_icmp_eq (q := 59) (t := 68) cx dX8_goesText_56 rfl (by decide) (fun c10 => ?_) (fun c10 => ?_)
          · exact G_loc [0, 1, 2] rfl (hK_1 (x2_1 + 1) (sI S3 28 0 a1.toNatClampNeg (x2_1 + 1)))
          refine G_aload_n (q := 60) cx dX8_goesText_59 rfl rfl ?_
          refine G_bipush (q := 62) (v := (59 : Int32)) cx dX8_goesText_60 rfl (by decide) ?_
          refine G_callV (q := 65) (d' := 1) (f := 8) (i := 0) (As := [.int (59 : Int32)]) (rest := []) (stk := fun r11 => [.int r11]) cx dX8_goesText_62 rfl cf_8 (Nat.le_of_ble_eq_true rfl) ml_RX8_242 rfl rfl (Nat.le_of_ble_eq_true rfl) (Nat.le_of_ble_eq_true rfl) (Nat.le_of_ble_eq_true rfl) (c_X8_takes l hJ  _ (59 : Int32)) (fun _ => rfl) (fun r11 S12 h13 o14 => ?_)
          refine G_if_ne (q := 68) (t := 15) cx dX8_goesText_65 rfl (by decide) (fun c15 => ?_) (fun c15 => ?_)
          · exact G_loc [0, 1, 2] rfl (ih_1 (x2_1 + 1) S12)
          · exact G_loc [0, 1, 2] rfl (hK_1 (x2_1 + 1) S12)
        · refine G_iconst (q := 52) (v := (1 : Int32)) cx dX8_goesText_51 rfl (by decide) ?_
          exact G_zret (ty := .boolean) cx rfl dX8_goesText_52 rfl rfl
      · refine G_iconst (q := 29) (v := (0 : Int32)) cx dX8_goesText_28 rfl (by decide) ?_
        exact G_zret (ty := .boolean) cx rfl dX8_goesText_29 rfl rfl
  refine G_loc [0, 1, 2] rfl (lp_1 _ (fun y2_1 T_1 => ?_) 1000 (0 : Int32) (sI (sI S 8 0 14 (0 : Int32)) 8 0 24 ((100 : Int32) * a1)))
  refine G_iconst (q := 69) (v := (0 : Int32)) cx dX8_goesText_68 rfl (by decide) ?_
  exact G_zret (ty := .boolean) cx rfl dX8_goesText_69 rfl rfl
def F_X8_air (S : St) : Option (Int32 × St) :=
  if (gI S 8 0 11) = (6 : Int32) then (some ((-4 : Int32), S))
  else (bnd (F_X8_goesText S (gI S 8 0 11)) (fun r2 S3 =>
  if r2 = 0 then (some ((-10 : Int32) - (gI (sI S3 8 0 13 (0 : Int32)) 8 0 14), (sI S3 8 0 13 (0 : Int32))))
  else (some (gI (sI (sI (sI S3 8 0 13 (0 : Int32)) 8 0 12 (gI (sI S3 8 0 13 (0 : Int32)) 8 0 11)) 8 0 11 ((gI (sI (sI S3 8 0 13 (0 : Int32)) 8 0 12 (gI (sI S3 8 0 13 (0 : Int32)) 8 0 11)) 8 0 11) + (1 : Int32))) 8 0 12, (sI (sI (sI S3 8 0 13 (0 : Int32)) 8 0 12 (gI (sI S3 8 0 13 (0 : Int32)) 8 0 11)) 8 0 11 ((gI (sI (sI S3 8 0 13 (0 : Int32)) 8 0 12 (gI (sI S3 8 0 13 (0 : Int32)) 8 0 11)) 8 0 11) + (1 : Int32)))))))
set_option maxRecDepth 10000 in
theorem c_X8_air (l : Launch) {D : va_G} {cy : Nat → ClassId} {ad : Nat → Nat → Nat} (hJ : wJ ad nM) (S : St) : CT l yX8_air cX8_air 2 (some .int) 7 D cy ad nM toI okT [.ref (ad 8 0)] S (F_X8_air S) := by
  refine CT.of RX8 (by decide) rfl hJ (Nat.le_of_ble_eq_true rfl) rfl ?_
  intro p e s m below meth c cx
  unfold F_X8_air
  refine G_aload_n (q := 1) cx dX8_air_0 rfl rfl ?_
  refine G_geti (q := 4) cx dX8_air_1 rfl cf_8 fl_RX8_44 (Nat.le_of_ble_eq_true rfl) rfl (Nat.le_of_ble_eq_true rfl) ?_
  refine G_bipush (q := 6) (v := (6 : Int32)) cx dX8_air_4 rfl (by decide) ?_
  refine G_icmp_ne (q := 9) (t := 12) cx dX8_air_6 rfl (by decide) (fun c1 => ?_) (fun c1 => ?_)
  · refine G_aload_n (q := 13) cx dX8_air_12 rfl rfl ?_
    refine G_aload_n (q := 14) cx dX8_air_13 rfl rfl ?_
    refine G_geti (q := 17) cx dX8_air_14 rfl cf_8 fl_RX8_44 (Nat.le_of_ble_eq_true rfl) rfl (Nat.le_of_ble_eq_true rfl) ?_
    refine G_callV (q := 20) (d' := 6) (f := 8) (i := 0) (As := [.int (gI S 8 0 11)]) (rest := []) (stk := fun r2 => [.int r2]) cx dX8_air_17 rfl cf_8 (Nat.le_of_ble_eq_true rfl) ml_RX8_282 rfl rfl (Nat.le_of_ble_eq_true rfl) (Nat.le_of_ble_eq_true rfl) (Nat.le_of_ble_eq_true rfl) (c_X8_goesText l hJ  _ (gI S 8 0 11)) (fun _ => rfl) (fun r2 S3 h4 o5 => ?_)
    refine G_istore_n (q := 21) (ls' := [(1, .int r2), (0, .ref (ad 8 0))]) cx dX8_air_20 rfl rfl (Nat.le_of_ble_eq_true rfl) rfl ?_
    refine G_aload_n (q := 22) cx dX8_air_21 rfl rfl ?_
    refine G_iconst (q := 23) (v := (0 : Int32)) cx dX8_air_22 rfl (by decide) ?_
    refine G_puti (q := 26) cx dX8_air_23 rfl cf_8 fl_RX8_50 (Nat.le_of_ble_eq_true rfl) rfl rfl rfl rfl rfl (Nat.le_of_ble_eq_true rfl) ?_
    refine G_iload_n (q := 27) cx dX8_air_26 rfl rfl ?_
    refine G_if_ne (q := 30) (t := 38) cx dX8_air_27 rfl (by decide) (fun c6 => ?_) (fun c6 => ?_)
    · refine G_aload_n (q := 39) cx dX8_air_38 rfl rfl ?_
      refine G_aload_n (q := 40) cx dX8_air_39 rfl rfl ?_
      refine G_geti (q := 43) cx dX8_air_40 rfl cf_8 fl_RX8_44 (Nat.le_of_ble_eq_true rfl) rfl (Nat.le_of_ble_eq_true rfl) ?_
      refine G_puti (q := 46) cx dX8_air_43 rfl cf_8 fl_RX8_47 (Nat.le_of_ble_eq_true rfl) rfl rfl rfl rfl rfl (Nat.le_of_ble_eq_true rfl) ?_
      refine G_aload_n (q := 47) cx dX8_air_46 rfl rfl ?_
      refine G_dup (q := 48) cx dX8_air_47 rfl rfl ?_
      refine G_geti (q := 51) cx dX8_air_48 rfl cf_8 fl_RX8_44 (Nat.le_of_ble_eq_true rfl) rfl (Nat.le_of_ble_eq_true rfl) ?_
      refine G_iconst (q := 52) (v := (1 : Int32)) cx dX8_air_51 rfl (by decide) ?_
      refine G_iadd (q := 53) cx dX8_air_52 rfl ?_
      refine G_puti (q := 56) cx dX8_air_53 rfl cf_8 fl_RX8_44 (Nat.le_of_ble_eq_true rfl) rfl rfl rfl rfl rfl (Nat.le_of_ble_eq_true rfl) ?_
      refine G_aload_n (q := 57) cx dX8_air_56 rfl rfl ?_
      refine G_geti (q := 60) cx dX8_air_57 rfl cf_8 fl_RX8_47 (Nat.le_of_ble_eq_true rfl) rfl (Nat.le_of_ble_eq_true rfl) ?_
      exact G_iret cx rfl dX8_air_60 trivial
    refine G_bipush (q := 32) (v := (-10 : Int32)) cx dX8_air_30 rfl (by decide) ?_
    refine G_aload_n (q := 33) cx dX8_air_32 rfl rfl ?_
    refine G_geti (q := 36) cx dX8_air_33 rfl cf_8 fl_RX8_53 (Nat.le_of_ble_eq_true rfl) rfl (Nat.le_of_ble_eq_true rfl) ?_
    refine G_isub (q := 37) cx dX8_air_36 rfl ?_
    exact G_iret cx rfl dX8_air_37 trivial
  · refine G_bipush (q := 11) (v := (-4 : Int32)) cx dX8_air_9 rfl (by decide) ?_
    exact G_iret cx rfl dX8_air_11 trivial
def F_X8_begin (S : St) : Option (Int32 × St) :=
  if 0 ≤ (gI S 8 0 12) then (some ((10 : Int32) * (gI S 8 0 12), S))
  else (some ((0 : Int32), S))
set_option maxRecDepth 10000 in
theorem c_X8_begin (l : Launch) {D : va_G} {cy : Nat → ClassId} {ad : Nat → Nat → Nat} (hJ : wJ ad nM) (S : St) : CT l yX8_begin cX8_begin 1 (some .int) 0 D cy ad nM toI okT [.ref (ad 8 0)] S (F_X8_begin S) := by
  refine CT.of RX8 (by decide) rfl hJ (Nat.le_of_ble_eq_true rfl) rfl ?_
  intro p e s m below meth c cx
  unfold F_X8_begin
  refine G_aload_n (q := 1) cx dX8_begin_0 rfl rfl ?_
  refine G_geti (q := 4) cx dX8_begin_1 rfl cf_8 fl_RX8_47 (Nat.le_of_ble_eq_true rfl) rfl (Nat.le_of_ble_eq_true rfl) ?_
  refine G_if_ge (q := 7) (t := 11) cx dX8_begin_4 rfl (by decide) (fun c1 => ?_) (fun c1 => ?_)
  · refine G_bipush (q := 13) (v := (10 : Int32)) cx dX8_begin_11 rfl (by decide) ?_
    refine G_aload_n (q := 14) cx dX8_begin_13 rfl rfl ?_
    refine G_geti (q := 17) cx dX8_begin_14 rfl cf_8 fl_RX8_47 (Nat.le_of_ble_eq_true rfl) rfl (Nat.le_of_ble_eq_true rfl) ?_
    refine G_imul (q := 18) cx dX8_begin_17 rfl ?_
    exact G_iret cx rfl dX8_begin_18 trivial
  · refine G_iconst (q := 8) (v := (0 : Int32)) cx dX8_begin_7 rfl (by decide) ?_
    refine G_goto (t := 18) cx dX8_begin_8 (by decide) ?_
    exact G_iret cx rfl dX8_begin_18 trivial
def F_X8_behind (S : St) : Option (Int32 × St) :=
  if 0 ≤ (gI S 8 0 12) then (if 0 ≤ (gI S 8 0 12) ∧ (gI S 8 0 12).toNatClampNeg < 6 then (some (((10 : Int32) * (gI S 8 0 12)) + (gI S 28 0 (gI S 8 0 12).toNatClampNeg), S))
  else none)
  else (some ((0 : Int32), S))
set_option maxRecDepth 10000 in
theorem c_X8_behind (l : Launch) {D : va_G} {cy : Nat → ClassId} {ad : Nat → Nat → Nat} (hJ : wJ ad nM) (S : St) : CT l yX8_behind cX8_behind 1 (some .int) 0 D cy ad nM toI okT [.ref (ad 8 0)] S (F_X8_behind S) := by
  refine CT.of RX8 (by decide) rfl hJ (Nat.le_of_ble_eq_true rfl) rfl ?_
  intro p e s m below meth c cx
  unfold F_X8_behind
  refine G_aload_n (q := 1) cx dX8_behind_0 rfl rfl ?_
  refine G_geti (q := 4) cx dX8_behind_1 rfl cf_8 fl_RX8_47 (Nat.le_of_ble_eq_true rfl) rfl (Nat.le_of_ble_eq_true rfl) ?_
  refine G_if_ge (q := 7) (t := 11) cx dX8_behind_4 rfl (by decide) (fun c1 => ?_) (fun c1 => ?_)
  · refine G_bipush (q := 13) (v := (10 : Int32)) cx dX8_behind_11 rfl (by decide) ?_
    refine G_aload_n (q := 14) cx dX8_behind_13 rfl rfl ?_
    refine G_geti (q := 17) cx dX8_behind_14 rfl cf_8 fl_RX8_47 (Nat.le_of_ble_eq_true rfl) rfl (Nat.le_of_ble_eq_true rfl) ?_
    refine G_imul (q := 18) cx dX8_behind_17 rfl ?_
    refine G_aload_n (q := 19) cx dX8_behind_18 rfl rfl ?_
    refine G_getr (q := 22) (g := 28) (i' := 0) cx dX8_behind_19 rfl cf_8 fl_RX8_62 (Nat.le_of_ble_eq_true rfl) rfl rfl (Nat.le_of_ble_eq_true rfl) ?_
    refine G_aload_n (q := 23) cx dX8_behind_22 rfl rfl ?_
    refine G_geti (q := 26) cx dX8_behind_23 rfl cf_8 fl_RX8_47 (Nat.le_of_ble_eq_true rfl) rfl (Nat.le_of_ble_eq_true rfl) ?_
    refine G_iald (q := 27) cx dX8_behind_26 rfl (by decide) rfl rfl (Nat.le_of_ble_eq_true rfl) (fun g2 g3 => ?_)
    refine G_iadd (q := 28) cx dX8_behind_27 rfl ?_
    exact G_iret cx rfl dX8_behind_28 trivial
  · refine G_iconst (q := 8) (v := (0 : Int32)) cx dX8_behind_7 rfl (by decide) ?_
    refine G_goto (t := 28) cx dX8_behind_8 (by decide) ?_
    exact G_iret cx rfl dX8_behind_28 trivial
def L_X8_lastOf_8 (a1 : Int32) (K_5 : Int32 → Int32 → St → Option (Int32 × St)) : Nat → Int32 → Int32 → St → Option (Int32 × St)
  | 0, _, _, _ => none
  | n + 1, x3_5, x4_5, S_5 =>
    bnd (F_X8_behind S_5) (fun r6 S7 =>
    if r6 ≤ x4_5 then (K_5 x3_5 x4_5 S7)
    else (if 0 ≤ x4_5 ∧ x4_5.toNatClampNeg < 60 then (if (gI S7 29 0 x4_5.toNatClampNeg) = a1 then (if 0 ≤ x4_5 ∧ x4_5.toNatClampNeg < 60 then (L_X8_lastOf_8 a1 K_5 n (gI S7 30 0 x4_5.toNatClampNeg) (x4_5 + 1) S7)
    else none)
    else (L_X8_lastOf_8 a1 K_5 n x3_5 (x4_5 + 1) S7))
    else none))
def F_X8_lastOf (S : St) (a1 : Int32) (a2 : Int32) : Option (Int32 × St) :=
  bnd (F_X8_begin S) (fun r1 S2 =>
  L_X8_lastOf_8 a1 
  (fun y3_5 y4_5 T_5 => some (y3_5, T_5)) 1000 a2 r1 S2)
set_option maxRecDepth 10000 in
theorem c_X8_lastOf (l : Launch) {D : va_G} {cy : Nat → ClassId} {ad : Nat → Nat → Nat} (hJ : wJ ad nM) (S : St) (a1 : Int32) (a2 : Int32) : CT l yX8_lastOf cX8_lastOf 5 (some .int) 1 D cy ad nM toI okT [.ref (ad 8 0), .int a1, .int a2] S (F_X8_lastOf S a1 a2) := by
  refine CT.of RX8 (by decide) rfl hJ (Nat.le_of_ble_eq_true rfl) rfl ?_
  intro p e s m below meth c cx
  unfold F_X8_lastOf
  refine G_iload_n (q := 1) cx dX8_lastOf_0 rfl rfl ?_
  refine G_istore_n (q := 2) (ls' := [(3, .int a2), (0, .ref (ad 8 0)), (1, .int a1), (2, .int a2)]) cx dX8_lastOf_1 rfl rfl (Nat.le_of_ble_eq_true rfl) rfl ?_
  refine G_aload_n (q := 3) cx dX8_lastOf_2 rfl rfl ?_
  refine G_callV (q := 6) (d' := 0) (f := 8) (i := 0) (As := []) (rest := []) (stk := fun r1 => [.int r1]) cx dX8_lastOf_3 rfl cf_8 (Nat.le_of_ble_eq_true rfl) ml_RX8_285 rfl rfl (Nat.le_of_ble_eq_true rfl) (Nat.le_of_ble_eq_true rfl) (Nat.le_of_ble_eq_true rfl) (c_X8_begin l hJ  _) (fun _ => rfl) (fun r1 S2 h3 o4 => ?_)
  refine G_istore (q := 8) (ls' := [(4, .int r1), (3, .int a2), (0, .ref (ad 8 0)), (1, .int a1), (2, .int a2)]) cx dX8_lastOf_6 rfl (Nat.le_of_ble_eq_true rfl) rfl ?_
  have lp_5 : ∀ (K_5 : Int32 → Int32 → St → Option (Int32 × St)) (hK_5 : ∀ (y3_5 : Int32) (y4_5 : Int32) (T_5 : St), TG p l e 1 s m ([.ref (ad 8 0), .int a1, .int a2] : List Value).toArray below meth c D cy ad nM toI okT T_5 46 [(3, .int y3_5), (4, .int y4_5), (0, .ref (ad 8 0)), (1, .int a1), (2, .int a2)] [] (K_5 y3_5 y4_5 T_5)), ∀ (n_5 : Nat) (x3_5 : Int32) (x4_5 : Int32) (S_5 : St), TG p l e 1 s m ([.ref (ad 8 0), .int a1, .int a2] : List Value).toArray below meth c D cy ad nM toI okT S_5 8 [(3, .int x3_5), (4, .int x4_5), (0, .ref (ad 8 0)), (1, .int a1), (2, .int a2)] [] (L_X8_lastOf_8 a1 K_5 n_5 x3_5 x4_5 S_5) := by
    intro K_5 hK_5 n_5
    induction n_5 with
    | zero => intros; exact G_none
    | succ n_5 ih_5 =>
      intro x3_5 x4_5 S_5
      rw [L_X8_lastOf_8.eq_2]
      refine G_iload (q := 10) cx dX8_lastOf_8 rfl rfl ?_
      refine G_aload_n (q := 11) cx dX8_lastOf_10 rfl rfl ?_
      refine G_callV (q := 14) (d' := 0) (f := 8) (i := 0) (As := []) (rest := [.int x4_5]) (stk := fun r6 => [.int r6, .int x4_5]) cx dX8_lastOf_11 rfl cf_8 (Nat.le_of_ble_eq_true rfl) ml_RX8_288 rfl rfl (Nat.le_of_ble_eq_true rfl) (Nat.le_of_ble_eq_true rfl) (Nat.le_of_ble_eq_true rfl) (c_X8_behind l hJ  _) (fun _ => rfl) (fun r6 S7 h8 o9 => ?_)
      refine G_icmp_ge (q := 17) (t := 46) cx dX8_lastOf_14 rfl (by decide) (fun c10 => ?_) (fun c10 => ?_)
      · exact G_loc [0, 1, 2, 3, 4] rfl (hK_5 x3_5 x4_5 S7)
      refine G_aload_n (q := 18) cx dX8_lastOf_17 rfl rfl ?_
      refine G_getr (q := 21) (g := 29) (i' := 0) cx dX8_lastOf_18 rfl cf_8 fl_RX8_65 (Nat.le_of_ble_eq_true rfl) rfl rfl (Nat.le_of_ble_eq_true rfl) ?_
      refine G_iload (q := 23) cx dX8_lastOf_21 rfl rfl ?_
      refine G_iald (q := 24) cx dX8_lastOf_23 rfl (by decide) rfl rfl (Nat.le_of_ble_eq_true rfl) (fun g11 g12 => ?_)
      refine G_iload_n (q := 25) cx dX8_lastOf_24 rfl rfl ?_
      refine G_icmp_ne (q := 28) (t := 38) cx dX8_lastOf_25 rfl (by decide) (fun c13 => ?_) (fun c13 => ?_)
      · refine G_iload_n (q := 39) cx dX8_lastOf_38 rfl rfl ?_
        refine G_istore_n (q := 40) (ls' := [(3, .int x3_5), (4, .int x4_5), (0, .ref (ad 8 0)), (1, .int a1), (2, .int a2)]) cx dX8_lastOf_39 rfl rfl (Nat.le_of_ble_eq_true rfl) rfl ?_
        refine G_iinc (q := 43) (j := 1) (v := x4_5 + 1) (ls' := [(4, .int (x4_5 + 1)), (3, .int x3_5), (0, .ref (ad 8 0)), (1, .int a1), (2, .int a2)]) cx dX8_lastOf_40 rfl rfl rfl (Nat.le_of_ble_eq_true rfl) rfl ?_
        refine G_goto (t := 8) cx dX8_lastOf_43 (by decide) ?_
        exact G_loc [1, 0, 2, 3, 4] rfl (ih_5 x3_5 (x4_5 + 1) S7)
      refine G_aload_n (q := 29) cx dX8_lastOf_28 rfl rfl ?_
      refine G_getr (q := 32) (g := 30) (i' := 0) cx dX8_lastOf_29 rfl cf_8 fl_RX8_68 (Nat.le_of_ble_eq_true rfl) rfl rfl (Nat.le_of_ble_eq_true rfl) ?_
      refine G_iload (q := 34) cx dX8_lastOf_32 rfl rfl ?_
      refine G_iald (q := 35) cx dX8_lastOf_34 rfl (by decide) rfl rfl (Nat.le_of_ble_eq_true rfl) (fun g14 g15 => ?_)
      refine G_goto (t := 39) cx dX8_lastOf_35 (by decide) ?_
      refine G_istore_n (q := 40) (ls' := [(3, .int (gI S7 30 0 x4_5.toNatClampNeg)), (4, .int x4_5), (0, .ref (ad 8 0)), (1, .int a1), (2, .int a2)]) cx dX8_lastOf_39 rfl rfl (Nat.le_of_ble_eq_true rfl) rfl ?_
      refine G_iinc (q := 43) (j := 1) (v := x4_5 + 1) (ls' := [(4, .int (x4_5 + 1)), (3, .int (gI S7 30 0 x4_5.toNatClampNeg)), (0, .ref (ad 8 0)), (1, .int a1), (2, .int a2)]) cx dX8_lastOf_40 rfl rfl rfl (Nat.le_of_ble_eq_true rfl) rfl ?_
      refine G_goto (t := 8) cx dX8_lastOf_43 (by decide) ?_
      exact G_loc [1, 0, 2, 3, 4] rfl (ih_5 (gI S7 30 0 x4_5.toNatClampNeg) (x4_5 + 1) S7)
  refine G_loc [1, 0, 2, 3, 4] rfl (lp_5 _ (fun y3_5 y4_5 T_5 => ?_) 1000 a2 r1 S2)
  refine G_iload_n (q := 47) cx dX8_lastOf_46 rfl rfl ?_
  exact G_iret cx rfl dX8_lastOf_47 trivial
def F_X8_base (S : St) : Option (Int32 × St) :=
  bnd (F_X8_lastOf S (2 : Int32) (40 : Int32)) (fun r1 S2 =>
  if ((10 : Int32) * r1) ≤ (400 : Int32) then (some ((10 : Int32) * r1, S2))
  else (some ((400 : Int32), S2)))
set_option maxRecDepth 10000 in
theorem c_X8_base (l : Launch) {D : va_G} {cy : Nat → ClassId} {ad : Nat → Nat → Nat} (hJ : wJ ad nM) (S : St) : CT l yX8_base cX8_base 2 (some .int) 2 D cy ad nM toI okT [.ref (ad 8 0)] S (F_X8_base S) := by
  refine CT.of RX8 (by decide) rfl hJ (Nat.le_of_ble_eq_true rfl) rfl ?_
  intro p e s m below meth c cx
  unfold F_X8_base
  refine G_bipush (q := 2) (v := (10 : Int32)) cx dX8_base_0 rfl (by decide) ?_
  refine G_aload_n (q := 3) cx dX8_base_2 rfl rfl ?_
  refine G_iconst (q := 4) (v := (2 : Int32)) cx dX8_base_3 rfl (by decide) ?_
  refine G_bipush (q := 6) (v := (40 : Int32)) cx dX8_base_4 rfl (by decide) ?_
  refine G_callV (q := 9) (d' := 1) (f := 8) (i := 0) (As := [.int (2 : Int32), .int (40 : Int32)]) (rest := [.int (10 : Int32)]) (stk := fun r1 => [.int r1, .int (10 : Int32)]) cx dX8_base_6 rfl cf_8 (Nat.le_of_ble_eq_true rfl) ml_RX8_291 rfl rfl (Nat.le_of_ble_eq_true rfl) (Nat.le_of_ble_eq_true rfl) (Nat.le_of_ble_eq_true rfl) (c_X8_lastOf l hJ  _ (2 : Int32) (40 : Int32)) (fun _ => rfl) (fun r1 S2 h3 o4 => ?_)
  refine G_imul (q := 10) cx dX8_base_9 rfl ?_
  refine G_istore_n (q := 11) (ls' := [(1, .int ((10 : Int32) * r1)), (0, .ref (ad 8 0))]) cx dX8_base_10 rfl rfl (Nat.le_of_ble_eq_true rfl) rfl ?_
  refine G_iload_n (q := 12) cx dX8_base_11 rfl rfl ?_
  refine G_sipush (q := 15) (v := (400 : Int32)) cx dX8_base_12 rfl (by decide) ?_
  refine G_icmp_le (q := 18) (t := 24) cx dX8_base_15 rfl (by decide) (fun c5 => ?_) (fun c5 => ?_)
  · refine G_iload_n (q := 25) cx dX8_base_24 rfl rfl ?_
    exact G_iret cx rfl dX8_base_25 trivial
  · refine G_sipush (q := 21) (v := (400 : Int32)) cx dX8_base_18 rfl (by decide) ?_
    refine G_goto (t := 25) cx dX8_base_21 (by decide) ?_
    exact G_iret cx rfl dX8_base_25 trivial
def F_X8_safe (S : St) : Option (Int32 × St) :=
  bnd (F_X8_lastOf S (3 : Int32) (8 : Int32)) (fun r1 S2 =>
  some ((10 : Int32) * r1, S2))
set_option maxRecDepth 10000 in
theorem c_X8_safe (l : Launch) {D : va_G} {cy : Nat → ClassId} {ad : Nat → Nat → Nat} (hJ : wJ ad nM) (S : St) : CT l yX8_safe cX8_safe 1 (some .int) 2 D cy ad nM toI okT [.ref (ad 8 0)] S (F_X8_safe S) := by
  refine CT.of RX8 (by decide) rfl hJ (Nat.le_of_ble_eq_true rfl) rfl ?_
  intro p e s m below meth c cx
  unfold F_X8_safe
  refine G_bipush (q := 2) (v := (10 : Int32)) cx dX8_safe_0 rfl (by decide) ?_
  refine G_aload_n (q := 3) cx dX8_safe_2 rfl rfl ?_
  refine G_iconst (q := 4) (v := (3 : Int32)) cx dX8_safe_3 rfl (by decide) ?_
  refine G_bipush (q := 6) (v := (8 : Int32)) cx dX8_safe_4 rfl (by decide) ?_
  refine G_callV (q := 9) (d' := 1) (f := 8) (i := 0) (As := [.int (3 : Int32), .int (8 : Int32)]) (rest := [.int (10 : Int32)]) (stk := fun r1 => [.int r1, .int (10 : Int32)]) cx dX8_safe_6 rfl cf_8 (Nat.le_of_ble_eq_true rfl) ml_RX8_291 rfl rfl (Nat.le_of_ble_eq_true rfl) (Nat.le_of_ble_eq_true rfl) (Nat.le_of_ble_eq_true rfl) (c_X8_lastOf l hJ  _ (3 : Int32) (8 : Int32)) (fun _ => rfl) (fun r1 S2 h3 o4 => ?_)
  refine G_imul (q := 10) cx dX8_safe_9 rfl ?_
  exact G_iret cx rfl dX8_safe_10 trivial
def F_X8_factOf (S : St) (a1 : Int32) (a2 : Int32) : Option (Int32 × St) :=
  if a1 = 0 then (some (a2, S))
  else (if a1 = 1 then (if 0 ≤ a2 ∧ a2.toNatClampNeg < 6 then (some (gI S 22 0 a2.toNatClampNeg, S))
  else none)
  else (if a1 = 2 then (some ((gI S 8 0 3) / (50 : Int32), S))
  else (if a1 = 3 then (if ((gI S 8 0 1) / (10 : Int32)) ≤ (99 : Int32) then (some ((gI S 8 0 1) / (10 : Int32), S))
  else (some ((99 : Int32), S)))
  else (if a1 = 4 then (if 0 ≤ a2 ∧ a2.toNatClampNeg < 6 then (some (gI S 23 0 a2.toNatClampNeg, S))
  else none)
  else (if 0 ≤ a2 ∧ a2.toNatClampNeg < 6 then (some ((gI S 24 0 a2.toNatClampNeg) / (10 : Int32), S))
  else none)))))
set_option maxRecDepth 10000 in
theorem c_X8_factOf (l : Launch) {D : va_G} {cy : Nat → ClassId} {ad : Nat → Nat → Nat} (hJ : wJ ad nM) (S : St) (a1 : Int32) (a2 : Int32) : CT l yX8_factOf cX8_factOf 3 (some .int) 0 D cy ad nM toI okT [.ref (ad 8 0), .int a1, .int a2] S (F_X8_factOf S a1 a2) := by
  refine CT.of RX8 (by decide) rfl hJ (Nat.le_of_ble_eq_true rfl) rfl ?_
  intro p e s m below meth c cx
  unfold F_X8_factOf
  refine G_iload_n (q := 1) cx dX8_factOf_0 rfl rfl ?_
  refine G_case (fun w1 => ?_) (fun w1 => ?_)
  · refine G_tswIn (t := 36) (off := 35) cx dX8_factOf_1 w1 (by decide) (by decide) (by decide) (by decide) ?_
    refine G_iload_n (q := 37) cx dX8_factOf_36 rfl rfl ?_
    exact G_iret cx rfl dX8_factOf_37 trivial
  refine G_case (fun w2 => ?_) (fun w2 => ?_)
  · refine G_tswIn (t := 38) (off := 37) cx dX8_factOf_1 w2 (by decide) (by decide) (by decide) (by decide) ?_
    refine G_aload_n (q := 39) cx dX8_factOf_38 rfl rfl ?_
    refine G_getr (q := 42) (g := 22) (i' := 0) cx dX8_factOf_39 rfl cf_8 fl_RX8_28 (Nat.le_of_ble_eq_true rfl) rfl rfl (Nat.le_of_ble_eq_true rfl) ?_
    refine G_iload_n (q := 43) cx dX8_factOf_42 rfl rfl ?_
    refine G_iald (q := 44) cx dX8_factOf_43 rfl (by decide) rfl rfl (Nat.le_of_ble_eq_true rfl) (fun g3 g4 => ?_)
    exact G_iret cx rfl dX8_factOf_44 trivial
  refine G_case (fun w5 => ?_) (fun w5 => ?_)
  · refine G_tswIn (t := 45) (off := 44) cx dX8_factOf_1 w5 (by decide) (by decide) (by decide) (by decide) ?_
    refine G_aload_n (q := 46) cx dX8_factOf_45 rfl rfl ?_
    refine G_geti (q := 49) cx dX8_factOf_46 rfl cf_8 fl_RX8_19 (Nat.le_of_ble_eq_true rfl) rfl (Nat.le_of_ble_eq_true rfl) ?_
    refine G_bipush (q := 51) (v := (50 : Int32)) cx dX8_factOf_49 rfl (by decide) ?_
    refine G_idiv (q := 52) cx dX8_factOf_51 rfl (by decide) ?_
    exact G_iret cx rfl dX8_factOf_52 trivial
  refine G_case (fun w6 => ?_) (fun w6 => ?_)
  · refine G_tswIn (t := 53) (off := 52) cx dX8_factOf_1 w6 (by decide) (by decide) (by decide) (by decide) ?_
    refine G_aload_n (q := 54) cx dX8_factOf_53 rfl rfl ?_
    refine G_geti (q := 57) cx dX8_factOf_54 rfl cf_8 fl_RX8_13 (Nat.le_of_ble_eq_true rfl) rfl (Nat.le_of_ble_eq_true rfl) ?_
    refine G_bipush (q := 59) (v := (10 : Int32)) cx dX8_factOf_57 rfl (by decide) ?_
    refine G_idiv (q := 60) cx dX8_factOf_59 rfl (by decide) ?_
    refine G_bipush (q := 62) (v := (99 : Int32)) cx dX8_factOf_60 rfl (by decide) ?_
    refine G_icmp_le (q := 65) (t := 70) cx dX8_factOf_62 rfl (by decide) (fun c7 => ?_) (fun c7 => ?_)
    · refine G_aload_n (q := 71) cx dX8_factOf_70 rfl rfl ?_
      refine G_geti (q := 74) cx dX8_factOf_71 rfl cf_8 fl_RX8_13 (Nat.le_of_ble_eq_true rfl) rfl (Nat.le_of_ble_eq_true rfl) ?_
      refine G_bipush (q := 76) (v := (10 : Int32)) cx dX8_factOf_74 rfl (by decide) ?_
      refine G_idiv (q := 77) cx dX8_factOf_76 rfl (by decide) ?_
      exact G_iret cx rfl dX8_factOf_77 trivial
    · refine G_bipush (q := 67) (v := (99 : Int32)) cx dX8_factOf_65 rfl (by decide) ?_
      refine G_goto (t := 77) cx dX8_factOf_67 (by decide) ?_
      exact G_iret cx rfl dX8_factOf_77 trivial
  refine G_case (fun w8 => ?_) (fun w8 => ?_)
  · refine G_tswIn (t := 78) (off := 77) cx dX8_factOf_1 w8 (by decide) (by decide) (by decide) (by decide) ?_
    refine G_aload_n (q := 79) cx dX8_factOf_78 rfl rfl ?_
    refine G_getr (q := 82) (g := 23) (i' := 0) cx dX8_factOf_79 rfl cf_8 fl_RX8_32 (Nat.le_of_ble_eq_true rfl) rfl rfl (Nat.le_of_ble_eq_true rfl) ?_
    refine G_iload_n (q := 83) cx dX8_factOf_82 rfl rfl ?_
    refine G_iald (q := 84) cx dX8_factOf_83 rfl (by decide) rfl rfl (Nat.le_of_ble_eq_true rfl) (fun g9 g10 => ?_)
    exact G_iret cx rfl dX8_factOf_84 trivial
  have hz1_0 := lv_neT w1 (show (0 : Int32).toInt = 0 by decide)
  have hz1_1 := lv_neT w2 (show (1 : Int32).toInt = 1 by decide)
  have hz1_2 := lv_neT w5 (show (2 : Int32).toInt = 2 by decide)
  have hz1_3 := lv_neT w6 (show (3 : Int32).toInt = 3 by decide)
  have hz1_4 := lv_neT w8 (show (4 : Int32).toInt = 4 by decide)
  refine G_tswOut (t := 85) cx dX8_factOf_1 (by omega) (by decide) ?_
  refine G_aload_n (q := 86) cx dX8_factOf_85 rfl rfl ?_
  refine G_getr (q := 89) (g := 24) (i' := 0) cx dX8_factOf_86 rfl cf_8 fl_RX8_35 (Nat.le_of_ble_eq_true rfl) rfl rfl (Nat.le_of_ble_eq_true rfl) ?_
  refine G_iload_n (q := 90) cx dX8_factOf_89 rfl rfl ?_
  refine G_iald (q := 91) cx dX8_factOf_90 rfl (by decide) rfl rfl (Nat.le_of_ble_eq_true rfl) (fun g11 g12 => ?_)
  refine G_bipush (q := 93) (v := (10 : Int32)) cx dX8_factOf_91 rfl (by decide) ?_
  refine G_idiv (q := 94) cx dX8_factOf_93 rfl (by decide) ?_
  exact G_iret cx rfl dX8_factOf_94 trivial
def L_X8_holds_10 (a1 : Int32) (a2 : Int32) (K_3 : Int32 → Int32 → St → Option (Int32 × St)) : Nat → Int32 → Int32 → St → Option (Int32 × St)
  | 0, _, _, _ => none
  | n + 1, x3_3, x4_3, S_3 =>
    if 0 ≤ a1 ∧ a1.toNatClampNeg < 60 then (if (gI S_3 32 0 a1.toNatClampNeg) ≤ x4_3 then (K_3 x3_3 x4_3 S_3)
    else (if 0 ≤ x4_3 ∧ x4_3.toNatClampNeg < 600 then (if (gI S_3 33 0 x4_3.toNatClampNeg) = (-33 : Int32) then (if 0 ≤ (x3_3 - (1 : Int32)) ∧ (x3_3 - (1 : Int32)).toNatClampNeg < 100 then (if (gI S_3 36 0 (x3_3 - (1 : Int32)).toNatClampNeg) = 0 then (if 0 ≤ (x3_3 - (1 : Int32)) ∧ (x3_3 - (1 : Int32)).toNatClampNeg < 100 then (L_X8_holds_10 a1 a2 K_3 n x3_3 (x4_3 + 1) (sI S_3 36 0 (x3_3 - (1 : Int32)).toNatClampNeg (vp_nar .boolean (1 : Int32))))
    else none)
    else (if 0 ≤ (x3_3 - (1 : Int32)) ∧ (x3_3 - (1 : Int32)).toNatClampNeg < 100 then (L_X8_holds_10 a1 a2 K_3 n x3_3 (x4_3 + 1) (sI S_3 36 0 (x3_3 - (1 : Int32)).toNatClampNeg (vp_nar .boolean (0 : Int32))))
    else none))
    else none)
    else (if 0 ≤ (gI S_3 33 0 x4_3.toNatClampNeg) then (bnd (F_X8_factOf S_3 ((gI S_3 33 0 x4_3.toNatClampNeg) / (1000 : Int32)) a2) (fun r14 S15 =>
    if (((gI S_3 33 0 x4_3.toNatClampNeg) / (100 : Int32)) - ((gI S_3 33 0 x4_3.toNatClampNeg) / (100 : Int32)) / (10 : Int32) * (10 : Int32)) = 0 then (if ((gI S_3 33 0 x4_3.toNatClampNeg) - (gI S_3 33 0 x4_3.toNatClampNeg) / (100 : Int32) * (100 : Int32)) ≤ r14 then (if 0 ≤ x3_3 ∧ x3_3.toNatClampNeg < 100 then (L_X8_holds_10 a1 a2 K_3 n (x3_3 + 1) (x4_3 + 1) (sI S15 36 0 x3_3.toNatClampNeg (vp_nar .boolean (0 : Int32))))
    else none)
    else (if 0 ≤ x3_3 ∧ x3_3.toNatClampNeg < 100 then (L_X8_holds_10 a1 a2 K_3 n (x3_3 + 1) (x4_3 + 1) (sI S15 36 0 x3_3.toNatClampNeg (vp_nar .boolean (1 : Int32))))
    else none))
    else (if (((gI S_3 33 0 x4_3.toNatClampNeg) / (100 : Int32)) - ((gI S_3 33 0 x4_3.toNatClampNeg) / (100 : Int32)) / (10 : Int32) * (10 : Int32)) = (1 : Int32) then (if r14 = ((gI S_3 33 0 x4_3.toNatClampNeg) - (gI S_3 33 0 x4_3.toNatClampNeg) / (100 : Int32) * (100 : Int32)) then (if 0 ≤ x3_3 ∧ x3_3.toNatClampNeg < 100 then (L_X8_holds_10 a1 a2 K_3 n (x3_3 + 1) (x4_3 + 1) (sI S15 36 0 x3_3.toNatClampNeg (vp_nar .boolean (1 : Int32))))
    else none)
    else (if 0 ≤ x3_3 ∧ x3_3.toNatClampNeg < 100 then (L_X8_holds_10 a1 a2 K_3 n (x3_3 + 1) (x4_3 + 1) (sI S15 36 0 x3_3.toNatClampNeg (vp_nar .boolean (0 : Int32))))
    else none))
    else (if r14 ≤ ((gI S_3 33 0 x4_3.toNatClampNeg) - (gI S_3 33 0 x4_3.toNatClampNeg) / (100 : Int32) * (100 : Int32)) then (if 0 ≤ x3_3 ∧ x3_3.toNatClampNeg < 100 then (L_X8_holds_10 a1 a2 K_3 n (x3_3 + 1) (x4_3 + 1) (sI S15 36 0 x3_3.toNatClampNeg (vp_nar .boolean (0 : Int32))))
    else none)
    else (if 0 ≤ x3_3 ∧ x3_3.toNatClampNeg < 100 then (L_X8_holds_10 a1 a2 K_3 n (x3_3 + 1) (x4_3 + 1) (sI S15 36 0 x3_3.toNatClampNeg (vp_nar .boolean (1 : Int32))))
    else none)))))
    else (if (gI S_3 33 0 x4_3.toNatClampNeg) = (-38 : Int32) then (if 0 ≤ ((x3_3 + (-1)) - (1 : Int32)) ∧ ((x3_3 + (-1)) - (1 : Int32)).toNatClampNeg < 100 then (if (gI S_3 36 0 ((x3_3 + (-1)) - (1 : Int32)).toNatClampNeg) = 0 then (if 0 ≤ ((x3_3 + (-1)) - (1 : Int32)) ∧ ((x3_3 + (-1)) - (1 : Int32)).toNatClampNeg < 100 then (L_X8_holds_10 a1 a2 K_3 n (x3_3 + (-1)) (x4_3 + 1) (sI S_3 36 0 ((x3_3 + (-1)) - (1 : Int32)).toNatClampNeg (vp_nar .boolean (0 : Int32))))
    else none)
    else (if 0 ≤ (x3_3 + (-1)) ∧ (x3_3 + (-1)).toNatClampNeg < 100 then (if (gI S_3 36 0 (x3_3 + (-1)).toNatClampNeg) = 0 then (if 0 ≤ ((x3_3 + (-1)) - (1 : Int32)) ∧ ((x3_3 + (-1)) - (1 : Int32)).toNatClampNeg < 100 then (L_X8_holds_10 a1 a2 K_3 n (x3_3 + (-1)) (x4_3 + 1) (sI S_3 36 0 ((x3_3 + (-1)) - (1 : Int32)).toNatClampNeg (vp_nar .boolean (0 : Int32))))
    else none)
    else (if 0 ≤ ((x3_3 + (-1)) - (1 : Int32)) ∧ ((x3_3 + (-1)) - (1 : Int32)).toNatClampNeg < 100 then (L_X8_holds_10 a1 a2 K_3 n (x3_3 + (-1)) (x4_3 + 1) (sI S_3 36 0 ((x3_3 + (-1)) - (1 : Int32)).toNatClampNeg (vp_nar .boolean (1 : Int32))))
    else none))
    else none))
    else none)
    else (if 0 ≤ ((x3_3 + (-1)) - (1 : Int32)) ∧ ((x3_3 + (-1)) - (1 : Int32)).toNatClampNeg < 100 then (if (gI S_3 36 0 ((x3_3 + (-1)) - (1 : Int32)).toNatClampNeg) = 0 then (if 0 ≤ (x3_3 + (-1)) ∧ (x3_3 + (-1)).toNatClampNeg < 100 then (if (gI S_3 36 0 (x3_3 + (-1)).toNatClampNeg) = 0 then (if 0 ≤ ((x3_3 + (-1)) - (1 : Int32)) ∧ ((x3_3 + (-1)) - (1 : Int32)).toNatClampNeg < 100 then (L_X8_holds_10 a1 a2 K_3 n (x3_3 + (-1)) (x4_3 + 1) (sI S_3 36 0 ((x3_3 + (-1)) - (1 : Int32)).toNatClampNeg (vp_nar .boolean (0 : Int32))))
    else none)
    else (if 0 ≤ ((x3_3 + (-1)) - (1 : Int32)) ∧ ((x3_3 + (-1)) - (1 : Int32)).toNatClampNeg < 100 then (L_X8_holds_10 a1 a2 K_3 n (x3_3 + (-1)) (x4_3 + 1) (sI S_3 36 0 ((x3_3 + (-1)) - (1 : Int32)).toNatClampNeg (vp_nar .boolean (1 : Int32))))
    else none))
    else none)
    else (if 0 ≤ ((x3_3 + (-1)) - (1 : Int32)) ∧ ((x3_3 + (-1)) - (1 : Int32)).toNatClampNeg < 100 then (L_X8_holds_10 a1 a2 K_3 n (x3_3 + (-1)) (x4_3 + 1) (sI S_3 36 0 ((x3_3 + (-1)) - (1 : Int32)).toNatClampNeg (vp_nar .boolean (1 : Int32))))
    else none))
    else none))))
    else none))
    else none
def F_X8_holds (S : St) (a1 : Int32) (a2 : Int32) : Option (Int32 × St) :=
  if 0 ≤ a1 ∧ a1.toNatClampNeg < 60 then (L_X8_holds_10 a1 a2 
  (fun y3_3 y4_3 T_3 => if 0 ≤ (0 : Int32) ∧ (0 : Int32).toNatClampNeg < 100 then (if (gI T_3 36 0 (0 : Int32).toNatClampNeg) = 0 ∨ (gI T_3 36 0 (0 : Int32).toNatClampNeg) = 1 then some (gI T_3 36 0 (0 : Int32).toNatClampNeg, T_3) else none)
  else none) 1000 (0 : Int32) (gI S 31 0 a1.toNatClampNeg) S)
  else none
set_option maxRecDepth 10000 in
theorem c_X8_holds (l : Launch) {D : va_G} {cy : Nat → ClassId} {ad : Nat → Nat → Nat} (hJ : wJ ad nM) (S : St) (a1 : Int32) (a2 : Int32) : CT l yX8_holds cX8_holds 8 (some .boolean) 1 D cy ad nM toI okZ [.ref (ad 8 0), .int a1, .int a2] S (F_X8_holds S a1 a2) := by
  refine CT.of RX8 (by decide) rfl hJ (Nat.le_of_ble_eq_true rfl) rfl ?_
  intro p e s m below meth c cx
  unfold F_X8_holds
  refine G_iconst (q := 1) (v := (0 : Int32)) cx dX8_holds_0 rfl (by decide) ?_
  refine G_istore_n (q := 2) (ls' := [(3, .int (0 : Int32)), (0, .ref (ad 8 0)), (1, .int a1), (2, .int a2)]) cx dX8_holds_1 rfl rfl (Nat.le_of_ble_eq_true rfl) rfl ?_
  refine G_aload_n (q := 3) cx dX8_holds_2 rfl rfl ?_
  refine G_getr (q := 6) (g := 31) (i' := 0) cx dX8_holds_3 rfl cf_8 fl_RX8_71 (Nat.le_of_ble_eq_true rfl) rfl rfl (Nat.le_of_ble_eq_true rfl) ?_
  refine G_iload_n (q := 7) cx dX8_holds_6 rfl rfl ?_
  refine G_iald (q := 8) cx dX8_holds_7 rfl (by decide) rfl rfl (Nat.le_of_ble_eq_true rfl) (fun g1 g2 => ?_)
  refine G_istore (q := 10) (ls' := [(4, .int (gI S 31 0 a1.toNatClampNeg)), (3, .int (0 : Int32)), (0, .ref (ad 8 0)), (1, .int a1), (2, .int a2)]) cx dX8_holds_8 rfl (Nat.le_of_ble_eq_true rfl) rfl ?_
  have lp_3 : ∀ (K_3 : Int32 → Int32 → St → Option (Int32 × St)) (hK_3 : ∀ (y3_3 : Int32) (y4_3 : Int32) (T_3 : St), TG p l e 1 s m ([.ref (ad 8 0), .int a1, .int a2] : List Value).toArray below meth c D cy ad nM toI okZ T_3 243 [(3, .int y3_3), (4, .int y4_3), (0, .ref (ad 8 0)), (1, .int a1), (2, .int a2)] [] (K_3 y3_3 y4_3 T_3)), ∀ (n_3 : Nat) (x3_3 : Int32) (x4_3 : Int32) (S_3 : St), TG p l e 1 s m ([.ref (ad 8 0), .int a1, .int a2] : List Value).toArray below meth c D cy ad nM toI okZ S_3 10 [(3, .int x3_3), (4, .int x4_3), (0, .ref (ad 8 0)), (1, .int a1), (2, .int a2)] [] (L_X8_holds_10 a1 a2 K_3 n_3 x3_3 x4_3 S_3) := by
    intro K_3 hK_3 n_3
    induction n_3 with
    | zero => intros; exact G_none
    | succ n_3 ih_3 =>
      intro x3_3 x4_3 S_3
      rw [L_X8_holds_10.eq_2]
      refine G_iload (q := 12) cx dX8_holds_10 rfl rfl ?_
      refine G_aload_n (q := 13) cx dX8_holds_12 rfl rfl ?_
      refine G_getr (q := 16) (g := 32) (i' := 0) cx dX8_holds_13 rfl cf_8 fl_RX8_74 (Nat.le_of_ble_eq_true rfl) rfl rfl (Nat.le_of_ble_eq_true rfl) ?_
      refine G_iload_n (q := 17) cx dX8_holds_16 rfl rfl ?_
      refine G_iald (q := 18) cx dX8_holds_17 rfl (by decide) rfl rfl (Nat.le_of_ble_eq_true rfl) (fun g7 g8 => ?_)
      refine G_icmp_ge (q := 21) (t := 243) cx dX8_holds_18 rfl (by decide) (fun c9 => ?_) (fun c9 => ?_)
      · exact G_loc [0, 1, 2, 3, 4] rfl (hK_3 x3_3 x4_3 S_3)
      refine G_aload_n (q := 22) cx dX8_holds_21 rfl rfl ?_
      refine G_getr (q := 25) (g := 33) (i' := 0) cx dX8_holds_22 rfl cf_8 fl_RX8_77 (Nat.le_of_ble_eq_true rfl) rfl rfl (Nat.le_of_ble_eq_true rfl) ?_
      refine G_iload (q := 27) cx dX8_holds_25 rfl rfl ?_
      refine G_iald (q := 28) cx dX8_holds_27 rfl (by decide) rfl rfl (Nat.le_of_ble_eq_true rfl) (fun g10 g11 => ?_)
      refine G_istore (q := 30) (ls' := [(5, .int (gI S_3 33 0 x4_3.toNatClampNeg)), (3, .int x3_3), (4, .int x4_3), (0, .ref (ad 8 0)), (1, .int a1), (2, .int a2)]) cx dX8_holds_28 rfl (Nat.le_of_ble_eq_true rfl) rfl ?_
      refine G_iload (q := 32) cx dX8_holds_30 rfl rfl ?_
      refine G_bipush (q := 34) (v := (-33 : Int32)) cx dX8_holds_32 rfl (by decide) ?_
      refine G_icmp_ne (q := 37) (t := 64) cx dX8_holds_34 rfl (by decide) (fun c12 => ?_) (fun c12 => ?_)
      · refine G_iload (q := 66) cx dX8_holds_64 rfl rfl ?_
        refine G_if_ge (q := 69) (t := 143) cx dX8_holds_66 rfl (by decide) (fun c13 => ?_) (fun c13 => ?_)
        · refine G_aload_n (q := 144) cx dX8_holds_143 rfl rfl ?_
          refine G_iload (q := 146) cx dX8_holds_144 rfl rfl ?_
          refine G_sipush (q := 149) (v := (1000 : Int32)) cx dX8_holds_146 rfl (by decide) ?_
          refine G_idiv (q := 150) cx dX8_holds_149 rfl (by decide) ?_
          refine G_iload_n (q := 151) cx dX8_holds_150 rfl rfl ?_
          refine G_callV (q := 154) (d' := 0) (f := 8) (i := 0) (As := [.int ((gI S_3 33 0 x4_3.toNatClampNeg) / (1000 : Int32)), .int a2]) (rest := []) (stk := fun r14 => [.int r14]) cx dX8_holds_151 rfl cf_8 (Nat.le_of_ble_eq_true rfl) ml_RX8_295 rfl rfl (Nat.le_of_ble_eq_true rfl) (Nat.le_of_ble_eq_true rfl) (Nat.le_of_ble_eq_true rfl) (c_X8_factOf l hJ  _ ((gI S_3 33 0 x4_3.toNatClampNeg) / (1000 : Int32)) a2) (fun _ => rfl) (fun r14 S15 h16 o17 => ?_)
          refine G_istore (q := 156) (ls' := [(6, .int r14), (5, .int (gI S_3 33 0 x4_3.toNatClampNeg)), (3, .int x3_3), (4, .int x4_3), (0, .ref (ad 8 0)), (1, .int a1), (2, .int a2)]) cx dX8_holds_154 rfl (Nat.le_of_ble_eq_true rfl) rfl ?_
          refine G_iload (q := 158) cx dX8_holds_156 rfl rfl ?_
          refine G_bipush (q := 160) (v := (100 : Int32)) cx dX8_holds_158 rfl (by decide) ?_
          refine G_idiv (q := 161) cx dX8_holds_160 rfl (by decide) ?_
          refine G_bipush (q := 163) (v := (10 : Int32)) cx dX8_holds_161 rfl (by decide) ?_
          refine G_irem (q := 164) cx dX8_holds_163 rfl (by decide) ?_
          refine G_istore (q := 166) (ls' := [(7, .int (((gI S_3 33 0 x4_3.toNatClampNeg) / (100 : Int32)) - ((gI S_3 33 0 x4_3.toNatClampNeg) / (100 : Int32)) / (10 : Int32) * (10 : Int32))), (6, .int r14), (5, .int (gI S_3 33 0 x4_3.toNatClampNeg)), (3, .int x3_3), (4, .int x4_3), (0, .ref (ad 8 0)), (1, .int a1), (2, .int a2)]) cx dX8_holds_164 rfl (Nat.le_of_ble_eq_true rfl) rfl ?_
          refine G_aload_n (q := 167) cx dX8_holds_166 rfl rfl ?_
          refine G_getr (q := 170) (g := 36) (i' := 0) cx dX8_holds_167 rfl cf_8 fl_RX8_95 (Nat.le_of_ble_eq_true rfl) rfl rfl (Nat.le_of_ble_eq_true rfl) ?_
          refine G_iload_n (q := 171) cx dX8_holds_170 rfl rfl ?_
          refine G_iload (q := 173) cx dX8_holds_171 rfl rfl ?_
          refine G_if_ne (q := 176) (t := 194) cx dX8_holds_173 rfl (by decide) (fun c18 => ?_) (fun c18 => ?_)
          · refine G_iload (q := 196) cx dX8_holds_194 rfl rfl ?_
            refine G_iconst (q := 197) (v := (1 : Int32)) cx dX8_holds_196 rfl (by decide) ?_
            refine G_icmp_ne (q := 200) (t := 218) cx dX8_holds_197 rfl (by decide) (fun c19 => ?_) (fun c19 => ?_)
            · refine G_iload (q := 220) cx dX8_holds_218 rfl rfl ?_
              refine G_iload (q := 222) cx dX8_holds_220 rfl rfl ?_
              refine G_bipush (q := 224) (v := (100 : Int32)) cx dX8_holds_222 rfl (by decide) ?_
              refine G_irem (q := 225) cx dX8_holds_224 rfl (by decide) ?_
              refine G_icmp_le (q := 228) (t := 232) cx dX8_holds_225 rfl (by decide) (fun c20 => ?_) (fun c20 => ?_)
              · refine G_iconst (q := 233) (v := (0 : Int32)) cx dX8_holds_232 rfl (by decide) ?_
                refine G_zast (q := 234) cx dX8_holds_233 rfl (by decide) rfl rfl (Nat.le_of_ble_eq_true rfl) (fun g21 g22 => ?_)
                refine G_iinc (q := 237) (j := 3) (v := x3_3 + 1) (ls' := [(3, .int (x3_3 + 1)), (7, .int (((gI S_3 33 0 x4_3.toNatClampNeg) / (100 : Int32)) - ((gI S_3 33 0 x4_3.toNatClampNeg) / (100 : Int32)) / (10 : Int32) * (10 : Int32))), (6, .int r14), (5, .int (gI S_3 33 0 x4_3.toNatClampNeg)), (4, .int x4_3), (0, .ref (ad 8 0)), (1, .int a1), (2, .int a2)]) cx dX8_holds_234 rfl rfl rfl (Nat.le_of_ble_eq_true rfl) rfl ?_
                refine G_iinc (q := 240) (j := 4) (v := x4_3 + 1) (ls' := [(4, .int (x4_3 + 1)), (3, .int (x3_3 + 1)), (7, .int (((gI S_3 33 0 x4_3.toNatClampNeg) / (100 : Int32)) - ((gI S_3 33 0 x4_3.toNatClampNeg) / (100 : Int32)) / (10 : Int32) * (10 : Int32))), (6, .int r14), (5, .int (gI S_3 33 0 x4_3.toNatClampNeg)), (0, .ref (ad 8 0)), (1, .int a1), (2, .int a2)]) cx dX8_holds_237 rfl rfl rfl (Nat.le_of_ble_eq_true rfl) rfl ?_
                refine G_goto (t := 10) cx dX8_holds_240 (by decide) ?_
                exact G_loc [1, 0, 5, 6, 7] rfl (ih_3 (x3_3 + 1) (x4_3 + 1) (sI S15 36 0 x3_3.toNatClampNeg (vp_nar .boolean (0 : Int32))))
              refine G_iconst (q := 229) (v := (1 : Int32)) cx dX8_holds_228 rfl (by decide) ?_
              refine G_goto (t := 233) cx dX8_holds_229 (by decide) ?_
              refine G_zast (q := 234) cx dX8_holds_233 rfl (by decide) rfl rfl (Nat.le_of_ble_eq_true rfl) (fun g23 g24 => ?_)
              refine G_iinc (q := 237) (j := 3) (v := x3_3 + 1) (ls' := [(3, .int (x3_3 + 1)), (7, .int (((gI S_3 33 0 x4_3.toNatClampNeg) / (100 : Int32)) - ((gI S_3 33 0 x4_3.toNatClampNeg) / (100 : Int32)) / (10 : Int32) * (10 : Int32))), (6, .int r14), (5, .int (gI S_3 33 0 x4_3.toNatClampNeg)), (4, .int x4_3), (0, .ref (ad 8 0)), (1, .int a1), (2, .int a2)]) cx dX8_holds_234 rfl rfl rfl (Nat.le_of_ble_eq_true rfl) rfl ?_
              refine G_iinc (q := 240) (j := 4) (v := x4_3 + 1) (ls' := [(4, .int (x4_3 + 1)), (3, .int (x3_3 + 1)), (7, .int (((gI S_3 33 0 x4_3.toNatClampNeg) / (100 : Int32)) - ((gI S_3 33 0 x4_3.toNatClampNeg) / (100 : Int32)) / (10 : Int32) * (10 : Int32))), (6, .int r14), (5, .int (gI S_3 33 0 x4_3.toNatClampNeg)), (0, .ref (ad 8 0)), (1, .int a1), (2, .int a2)]) cx dX8_holds_237 rfl rfl rfl (Nat.le_of_ble_eq_true rfl) rfl ?_
              refine G_goto (t := 10) cx dX8_holds_240 (by decide) ?_
              exact G_loc [1, 0, 5, 6, 7] rfl (ih_3 (x3_3 + 1) (x4_3 + 1) (sI S15 36 0 x3_3.toNatClampNeg (vp_nar .boolean (1 : Int32))))
            refine G_iload (q := 202) cx dX8_holds_200 rfl rfl ?_
            refine G_iload (q := 204) cx dX8_holds_202 rfl rfl ?_
            refine G_bipush (q := 206) (v := (100 : Int32)) cx dX8_holds_204 rfl (by decide) ?_
            refine G_irem (q := 207) cx dX8_holds_206 rfl (by decide) ?_
            refine G_icmp_ne (q := 210) (t := 214) cx dX8_holds_207 rfl (by decide) (fun c25 => ?_) (fun c25 => ?_)
            · refine G_iconst (q := 215) (v := (0 : Int32)) cx dX8_holds_214 rfl (by decide) ?_
              refine G_goto (t := 233) cx dX8_holds_215 (by decide) ?_
              refine G_zast (q := 234) cx dX8_holds_233 rfl (by decide) rfl rfl (Nat.le_of_ble_eq_true rfl) (fun g26 g27 => ?_)
              refine G_iinc (q := 237) (j := 3) (v := x3_3 + 1) (ls' := [(3, .int (x3_3 + 1)), (7, .int (((gI S_3 33 0 x4_3.toNatClampNeg) / (100 : Int32)) - ((gI S_3 33 0 x4_3.toNatClampNeg) / (100 : Int32)) / (10 : Int32) * (10 : Int32))), (6, .int r14), (5, .int (gI S_3 33 0 x4_3.toNatClampNeg)), (4, .int x4_3), (0, .ref (ad 8 0)), (1, .int a1), (2, .int a2)]) cx dX8_holds_234 rfl rfl rfl (Nat.le_of_ble_eq_true rfl) rfl ?_
              refine G_iinc (q := 240) (j := 4) (v := x4_3 + 1) (ls' := [(4, .int (x4_3 + 1)), (3, .int (x3_3 + 1)), (7, .int (((gI S_3 33 0 x4_3.toNatClampNeg) / (100 : Int32)) - ((gI S_3 33 0 x4_3.toNatClampNeg) / (100 : Int32)) / (10 : Int32) * (10 : Int32))), (6, .int r14), (5, .int (gI S_3 33 0 x4_3.toNatClampNeg)), (0, .ref (ad 8 0)), (1, .int a1), (2, .int a2)]) cx dX8_holds_237 rfl rfl rfl (Nat.le_of_ble_eq_true rfl) rfl ?_
              refine G_goto (t := 10) cx dX8_holds_240 (by decide) ?_
              exact G_loc [1, 0, 5, 6, 7] rfl (ih_3 (x3_3 + 1) (x4_3 + 1) (sI S15 36 0 x3_3.toNatClampNeg (vp_nar .boolean (0 : Int32))))
            refine G_iconst (q := 211) (v := (1 : Int32)) cx dX8_holds_210 rfl (by decide) ?_
            refine G_goto (t := 233) cx dX8_holds_211 (by decide) ?_
            refine G_zast (q := 234) cx dX8_holds_233 rfl (by decide) rfl rfl (Nat.le_of_ble_eq_true rfl) (fun g28 g29 => ?_)
            refine G_iinc (q := 237) (j := 3) (v := x3_3 + 1) (ls' := [(3, .int (x3_3 + 1)), (7, .int (((gI S_3 33 0 x4_3.toNatClampNeg) / (100 : Int32)) - ((gI S_3 33 0 x4_3.toNatClampNeg) / (100 : Int32)) / (10 : Int32) * (10 : Int32))), (6, .int r14), (5, .int (gI S_3 33 0 x4_3.toNatClampNeg)), (4, .int x4_3), (0, .ref (ad 8 0)), (1, .int a1), (2, .int a2)]) cx dX8_holds_234 rfl rfl rfl (Nat.le_of_ble_eq_true rfl) rfl ?_
            refine G_iinc (q := 240) (j := 4) (v := x4_3 + 1) (ls' := [(4, .int (x4_3 + 1)), (3, .int (x3_3 + 1)), (7, .int (((gI S_3 33 0 x4_3.toNatClampNeg) / (100 : Int32)) - ((gI S_3 33 0 x4_3.toNatClampNeg) / (100 : Int32)) / (10 : Int32) * (10 : Int32))), (6, .int r14), (5, .int (gI S_3 33 0 x4_3.toNatClampNeg)), (0, .ref (ad 8 0)), (1, .int a1), (2, .int a2)]) cx dX8_holds_237 rfl rfl rfl (Nat.le_of_ble_eq_true rfl) rfl ?_
            refine G_goto (t := 10) cx dX8_holds_240 (by decide) ?_
            exact G_loc [1, 0, 5, 6, 7] rfl (ih_3 (x3_3 + 1) (x4_3 + 1) (sI S15 36 0 x3_3.toNatClampNeg (vp_nar .boolean (1 : Int32))))
          refine G_iload (q := 178) cx dX8_holds_176 rfl rfl ?_
          refine G_iload (q := 180) cx dX8_holds_178 rfl rfl ?_
          refine G_bipush (q := 182) (v := (100 : Int32)) cx dX8_holds_180 rfl (by decide) ?_
          refine G_irem (q := 183) cx dX8_holds_182 rfl (by decide) ?_
          refine G_icmp_ge (q := 186) (t := 190) cx dX8_holds_183 rfl (by decide) (fun c30 => ?_) (fun c30 => ?_)
          · refine G_iconst (q := 191) (v := (0 : Int32)) cx dX8_holds_190 rfl (by decide) ?_
            refine G_goto (t := 233) cx dX8_holds_191 (by decide) ?_
            refine G_zast (q := 234) cx dX8_holds_233 rfl (by decide) rfl rfl (Nat.le_of_ble_eq_true rfl) (fun g31 g32 => ?_)
            refine G_iinc (q := 237) (j := 3) (v := x3_3 + 1) (ls' := [(3, .int (x3_3 + 1)), (7, .int (((gI S_3 33 0 x4_3.toNatClampNeg) / (100 : Int32)) - ((gI S_3 33 0 x4_3.toNatClampNeg) / (100 : Int32)) / (10 : Int32) * (10 : Int32))), (6, .int r14), (5, .int (gI S_3 33 0 x4_3.toNatClampNeg)), (4, .int x4_3), (0, .ref (ad 8 0)), (1, .int a1), (2, .int a2)]) cx dX8_holds_234 rfl rfl rfl (Nat.le_of_ble_eq_true rfl) rfl ?_
            refine G_iinc (q := 240) (j := 4) (v := x4_3 + 1) (ls' := [(4, .int (x4_3 + 1)), (3, .int (x3_3 + 1)), (7, .int (((gI S_3 33 0 x4_3.toNatClampNeg) / (100 : Int32)) - ((gI S_3 33 0 x4_3.toNatClampNeg) / (100 : Int32)) / (10 : Int32) * (10 : Int32))), (6, .int r14), (5, .int (gI S_3 33 0 x4_3.toNatClampNeg)), (0, .ref (ad 8 0)), (1, .int a1), (2, .int a2)]) cx dX8_holds_237 rfl rfl rfl (Nat.le_of_ble_eq_true rfl) rfl ?_
            refine G_goto (t := 10) cx dX8_holds_240 (by decide) ?_
            exact G_loc [1, 0, 5, 6, 7] rfl (ih_3 (x3_3 + 1) (x4_3 + 1) (sI S15 36 0 x3_3.toNatClampNeg (vp_nar .boolean (0 : Int32))))
          refine G_iconst (q := 187) (v := (1 : Int32)) cx dX8_holds_186 rfl (by decide) ?_
          refine G_goto (t := 233) cx dX8_holds_187 (by decide) ?_
          refine G_zast (q := 234) cx dX8_holds_233 rfl (by decide) rfl rfl (Nat.le_of_ble_eq_true rfl) (fun g33 g34 => ?_)
          refine G_iinc (q := 237) (j := 3) (v := x3_3 + 1) (ls' := [(3, .int (x3_3 + 1)), (7, .int (((gI S_3 33 0 x4_3.toNatClampNeg) / (100 : Int32)) - ((gI S_3 33 0 x4_3.toNatClampNeg) / (100 : Int32)) / (10 : Int32) * (10 : Int32))), (6, .int r14), (5, .int (gI S_3 33 0 x4_3.toNatClampNeg)), (4, .int x4_3), (0, .ref (ad 8 0)), (1, .int a1), (2, .int a2)]) cx dX8_holds_234 rfl rfl rfl (Nat.le_of_ble_eq_true rfl) rfl ?_
          refine G_iinc (q := 240) (j := 4) (v := x4_3 + 1) (ls' := [(4, .int (x4_3 + 1)), (3, .int (x3_3 + 1)), (7, .int (((gI S_3 33 0 x4_3.toNatClampNeg) / (100 : Int32)) - ((gI S_3 33 0 x4_3.toNatClampNeg) / (100 : Int32)) / (10 : Int32) * (10 : Int32))), (6, .int r14), (5, .int (gI S_3 33 0 x4_3.toNatClampNeg)), (0, .ref (ad 8 0)), (1, .int a1), (2, .int a2)]) cx dX8_holds_237 rfl rfl rfl (Nat.le_of_ble_eq_true rfl) rfl ?_
          refine G_goto (t := 10) cx dX8_holds_240 (by decide) ?_
          exact G_loc [1, 0, 5, 6, 7] rfl (ih_3 (x3_3 + 1) (x4_3 + 1) (sI S15 36 0 x3_3.toNatClampNeg (vp_nar .boolean (1 : Int32))))
        refine G_iinc (q := 72) (j := 1) (v := x3_3 + (-1)) (ls' := [(3, .int (x3_3 + (-1))), (5, .int (gI S_3 33 0 x4_3.toNatClampNeg)), (4, .int x4_3), (0, .ref (ad 8 0)), (1, .int a1), (2, .int a2)]) cx dX8_holds_69 rfl rfl rfl (Nat.le_of_ble_eq_true rfl) rfl ?_
        refine G_aload_n (q := 73) cx dX8_holds_72 rfl rfl ?_
        refine G_getr (q := 76) (g := 36) (i' := 0) cx dX8_holds_73 rfl cf_8 fl_RX8_95 (Nat.le_of_ble_eq_true rfl) rfl rfl (Nat.le_of_ble_eq_true rfl) ?_
        refine G_iload_n (q := 77) cx dX8_holds_76 rfl rfl ?_
        refine G_iconst (q := 78) (v := (1 : Int32)) cx dX8_holds_77 rfl (by decide) ?_
        refine G_isub (q := 79) cx dX8_holds_78 rfl ?_
        refine G_iload (q := 81) cx dX8_holds_79 rfl rfl ?_
        refine G_bipush (q := 83) (v := (-38 : Int32)) cx dX8_holds_81 rfl (by decide) ?_
        refine G_icmp_ne (q := 86) (t := 114) cx dX8_holds_83 rfl (by decide) (fun c35 => ?_) (fun c35 => ?_)
        · refine G_aload_n (q := 115) cx dX8_holds_114 rfl rfl ?_
          refine G_getr (q := 118) (g := 36) (i' := 0) cx dX8_holds_115 rfl cf_8 fl_RX8_95 (Nat.le_of_ble_eq_true rfl) rfl rfl (Nat.le_of_ble_eq_true rfl) ?_
          refine G_iload_n (q := 119) cx dX8_holds_118 rfl rfl ?_
          refine G_iconst (q := 120) (v := (1 : Int32)) cx dX8_holds_119 rfl (by decide) ?_
          refine G_isub (q := 121) cx dX8_holds_120 rfl ?_
          refine G_zald (q := 122) cx dX8_holds_121 rfl (by decide) rfl rfl (Nat.le_of_ble_eq_true rfl) (fun g36 g37 => ?_)
          refine G_if_ne (q := 125) (t := 134) cx dX8_holds_122 rfl (by decide) (fun c38 => ?_) (fun c38 => ?_)
          · refine G_iconst (q := 135) (v := (1 : Int32)) cx dX8_holds_134 rfl (by decide) ?_
            refine G_goto (t := 139) cx dX8_holds_135 (by decide) ?_
            refine G_zast (q := 140) cx dX8_holds_139 rfl (by decide) rfl rfl (Nat.le_of_ble_eq_true rfl) (fun g39 g40 => ?_)
            refine G_goto (t := 237) cx dX8_holds_140 (by decide) ?_
            refine G_iinc (q := 240) (j := 2) (v := x4_3 + 1) (ls' := [(4, .int (x4_3 + 1)), (3, .int (x3_3 + (-1))), (5, .int (gI S_3 33 0 x4_3.toNatClampNeg)), (0, .ref (ad 8 0)), (1, .int a1), (2, .int a2)]) cx dX8_holds_237 rfl rfl rfl (Nat.le_of_ble_eq_true rfl) rfl ?_
            refine G_goto (t := 10) cx dX8_holds_240 (by decide) ?_
            exact G_loc [1, 0, 3, 4, 5] rfl (ih_3 (x3_3 + (-1)) (x4_3 + 1) (sI S_3 36 0 ((x3_3 + (-1)) - (1 : Int32)).toNatClampNeg (vp_nar .boolean (1 : Int32))))
          refine G_aload_n (q := 126) cx dX8_holds_125 rfl rfl ?_
          refine G_getr (q := 129) (g := 36) (i' := 0) cx dX8_holds_126 rfl cf_8 fl_RX8_95 (Nat.le_of_ble_eq_true rfl) rfl rfl (Nat.le_of_ble_eq_true rfl) ?_
          refine G_iload_n (q := 130) cx dX8_holds_129 rfl rfl ?_
          refine G_zald (q := 131) cx dX8_holds_130 rfl (by decide) rfl rfl (Nat.le_of_ble_eq_true rfl) (fun g41 g42 => ?_)
          refine G_if_eq (q := 134) (t := 138) cx dX8_holds_131 rfl (by decide) (fun c43 => ?_) (fun c43 => ?_)
          · refine G_iconst (q := 139) (v := (0 : Int32)) cx dX8_holds_138 rfl (by decide) ?_
            refine G_zast (q := 140) cx dX8_holds_139 rfl (by decide) rfl rfl (Nat.le_of_ble_eq_true rfl) (fun g44 g45 => ?_)
            refine G_goto (t := 237) cx dX8_holds_140 (by decide) ?_
            refine G_iinc (q := 240) (j := 2) (v := x4_3 + 1) (ls' := [(4, .int (x4_3 + 1)), (3, .int (x3_3 + (-1))), (5, .int (gI S_3 33 0 x4_3.toNatClampNeg)), (0, .ref (ad 8 0)), (1, .int a1), (2, .int a2)]) cx dX8_holds_237 rfl rfl rfl (Nat.le_of_ble_eq_true rfl) rfl ?_
            refine G_goto (t := 10) cx dX8_holds_240 (by decide) ?_
            exact G_loc [1, 0, 3, 4, 5] rfl (ih_3 (x3_3 + (-1)) (x4_3 + 1) (sI S_3 36 0 ((x3_3 + (-1)) - (1 : Int32)).toNatClampNeg (vp_nar .boolean (0 : Int32))))
          refine G_iconst (q := 135) (v := (1 : Int32)) cx dX8_holds_134 rfl (by decide) ?_
          refine G_goto (t := 139) cx dX8_holds_135 (by decide) ?_
          refine G_zast (q := 140) cx dX8_holds_139 rfl (by decide) rfl rfl (Nat.le_of_ble_eq_true rfl) (fun g46 g47 => ?_)
          refine G_goto (t := 237) cx dX8_holds_140 (by decide) ?_
          refine G_iinc (q := 240) (j := 2) (v := x4_3 + 1) (ls' := [(4, .int (x4_3 + 1)), (3, .int (x3_3 + (-1))), (5, .int (gI S_3 33 0 x4_3.toNatClampNeg)), (0, .ref (ad 8 0)), (1, .int a1), (2, .int a2)]) cx dX8_holds_237 rfl rfl rfl (Nat.le_of_ble_eq_true rfl) rfl ?_
          refine G_goto (t := 10) cx dX8_holds_240 (by decide) ?_
          exact G_loc [1, 0, 3, 4, 5] rfl (ih_3 (x3_3 + (-1)) (x4_3 + 1) (sI S_3 36 0 ((x3_3 + (-1)) - (1 : Int32)).toNatClampNeg (vp_nar .boolean (1 : Int32))))
        refine G_aload_n (q := 87) cx dX8_holds_86 rfl rfl ?_
        refine G_getr (q := 90) (g := 36) (i' := 0) cx dX8_holds_87 rfl cf_8 fl_RX8_95 (Nat.le_of_ble_eq_true rfl) rfl rfl (Nat.le_of_ble_eq_true rfl) ?_
        refine G_iload_n (q := 91) cx dX8_holds_90 rfl rfl ?_
        refine G_iconst (q := 92) (v := (1 : Int32)) cx dX8_holds_91 rfl (by decide) ?_
        refine G_isub (q := 93) cx dX8_holds_92 rfl ?_
        refine G_zald (q := 94) cx dX8_holds_93 rfl (by decide) rfl rfl (Nat.le_of_ble_eq_true rfl) (fun g48 g49 => ?_)
        refine G_if_eq (q := 97) (t := 110) cx dX8_holds_94 rfl (by decide) (fun c50 => ?_) (fun c50 => ?_)
        · refine G_iconst (q := 111) (v := (0 : Int32)) cx dX8_holds_110 rfl (by decide) ?_
          refine G_goto (t := 139) cx dX8_holds_111 (by decide) ?_
          refine G_zast (q := 140) cx dX8_holds_139 rfl (by decide) rfl rfl (Nat.le_of_ble_eq_true rfl) (fun g51 g52 => ?_)
          refine G_goto (t := 237) cx dX8_holds_140 (by decide) ?_
          refine G_iinc (q := 240) (j := 2) (v := x4_3 + 1) (ls' := [(4, .int (x4_3 + 1)), (3, .int (x3_3 + (-1))), (5, .int (gI S_3 33 0 x4_3.toNatClampNeg)), (0, .ref (ad 8 0)), (1, .int a1), (2, .int a2)]) cx dX8_holds_237 rfl rfl rfl (Nat.le_of_ble_eq_true rfl) rfl ?_
          refine G_goto (t := 10) cx dX8_holds_240 (by decide) ?_
          exact G_loc [1, 0, 3, 4, 5] rfl (ih_3 (x3_3 + (-1)) (x4_3 + 1) (sI S_3 36 0 ((x3_3 + (-1)) - (1 : Int32)).toNatClampNeg (vp_nar .boolean (0 : Int32))))
        refine G_aload_n (q := 98) cx dX8_holds_97 rfl rfl ?_
        refine G_getr (q := 101) (g := 36) (i' := 0) cx dX8_holds_98 rfl cf_8 fl_RX8_95 (Nat.le_of_ble_eq_true rfl) rfl rfl (Nat.le_of_ble_eq_true rfl) ?_
        refine G_iload_n (q := 102) cx dX8_holds_101 rfl rfl ?_
        refine G_zald (q := 103) cx dX8_holds_102 rfl (by decide) rfl rfl (Nat.le_of_ble_eq_true rfl) (fun g53 g54 => ?_)
        refine G_if_eq (q := 106) (t := 110) cx dX8_holds_103 rfl (by decide) (fun c55 => ?_) (fun c55 => ?_)
        · refine G_iconst (q := 111) (v := (0 : Int32)) cx dX8_holds_110 rfl (by decide) ?_
          refine G_goto (t := 139) cx dX8_holds_111 (by decide) ?_
          refine G_zast (q := 140) cx dX8_holds_139 rfl (by decide) rfl rfl (Nat.le_of_ble_eq_true rfl) (fun g56 g57 => ?_)
          refine G_goto (t := 237) cx dX8_holds_140 (by decide) ?_
          refine G_iinc (q := 240) (j := 2) (v := x4_3 + 1) (ls' := [(4, .int (x4_3 + 1)), (3, .int (x3_3 + (-1))), (5, .int (gI S_3 33 0 x4_3.toNatClampNeg)), (0, .ref (ad 8 0)), (1, .int a1), (2, .int a2)]) cx dX8_holds_237 rfl rfl rfl (Nat.le_of_ble_eq_true rfl) rfl ?_
          refine G_goto (t := 10) cx dX8_holds_240 (by decide) ?_
          exact G_loc [1, 0, 3, 4, 5] rfl (ih_3 (x3_3 + (-1)) (x4_3 + 1) (sI S_3 36 0 ((x3_3 + (-1)) - (1 : Int32)).toNatClampNeg (vp_nar .boolean (0 : Int32))))
        refine G_iconst (q := 107) (v := (1 : Int32)) cx dX8_holds_106 rfl (by decide) ?_
        refine G_goto (t := 139) cx dX8_holds_107 (by decide) ?_
        refine G_zast (q := 140) cx dX8_holds_139 rfl (by decide) rfl rfl (Nat.le_of_ble_eq_true rfl) (fun g58 g59 => ?_)
        refine G_goto (t := 237) cx dX8_holds_140 (by decide) ?_
        refine G_iinc (q := 240) (j := 2) (v := x4_3 + 1) (ls' := [(4, .int (x4_3 + 1)), (3, .int (x3_3 + (-1))), (5, .int (gI S_3 33 0 x4_3.toNatClampNeg)), (0, .ref (ad 8 0)), (1, .int a1), (2, .int a2)]) cx dX8_holds_237 rfl rfl rfl (Nat.le_of_ble_eq_true rfl) rfl ?_
        refine G_goto (t := 10) cx dX8_holds_240 (by decide) ?_
        exact G_loc [1, 0, 3, 4, 5] rfl (ih_3 (x3_3 + (-1)) (x4_3 + 1) (sI S_3 36 0 ((x3_3 + (-1)) - (1 : Int32)).toNatClampNeg (vp_nar .boolean (1 : Int32))))
      refine G_aload_n (q := 38) cx dX8_holds_37 rfl rfl ?_
      refine G_getr (q := 41) (g := 36) (i' := 0) cx dX8_holds_38 rfl cf_8 fl_RX8_95 (Nat.le_of_ble_eq_true rfl) rfl rfl (Nat.le_of_ble_eq_true rfl) ?_
      refine G_iload_n (q := 42) cx dX8_holds_41 rfl rfl ?_
      refine G_iconst (q := 43) (v := (1 : Int32)) cx dX8_holds_42 rfl (by decide) ?_
      refine G_isub (q := 44) cx dX8_holds_43 rfl ?_
      refine G_aload_n (q := 45) cx dX8_holds_44 rfl rfl ?_
      refine G_getr (q := 48) (g := 36) (i' := 0) cx dX8_holds_45 rfl cf_8 fl_RX8_95 (Nat.le_of_ble_eq_true rfl) rfl rfl (Nat.le_of_ble_eq_true rfl) ?_
      refine G_iload_n (q := 49) cx dX8_holds_48 rfl rfl ?_
      refine G_iconst (q := 50) (v := (1 : Int32)) cx dX8_holds_49 rfl (by decide) ?_
      refine G_isub (q := 51) cx dX8_holds_50 rfl ?_
      refine G_zald (q := 52) cx dX8_holds_51 rfl (by decide) rfl rfl (Nat.le_of_ble_eq_true rfl) (fun g60 g61 => ?_)
      refine G_if_ne (q := 55) (t := 59) cx dX8_holds_52 rfl (by decide) (fun c62 => ?_) (fun c62 => ?_)
      · refine G_iconst (q := 60) (v := (0 : Int32)) cx dX8_holds_59 rfl (by decide) ?_
        refine G_zast (q := 61) cx dX8_holds_60 rfl (by decide) rfl rfl (Nat.le_of_ble_eq_true rfl) (fun g63 g64 => ?_)
        refine G_goto (t := 237) cx dX8_holds_61 (by decide) ?_
        refine G_iinc (q := 240) (j := 2) (v := x4_3 + 1) (ls' := [(4, .int (x4_3 + 1)), (5, .int (gI S_3 33 0 x4_3.toNatClampNeg)), (3, .int x3_3), (0, .ref (ad 8 0)), (1, .int a1), (2, .int a2)]) cx dX8_holds_237 rfl rfl rfl (Nat.le_of_ble_eq_true rfl) rfl ?_
        refine G_goto (t := 10) cx dX8_holds_240 (by decide) ?_
        exact G_loc [2, 0, 3, 4, 5] rfl (ih_3 x3_3 (x4_3 + 1) (sI S_3 36 0 (x3_3 - (1 : Int32)).toNatClampNeg (vp_nar .boolean (0 : Int32))))
      refine G_iconst (q := 56) (v := (1 : Int32)) cx dX8_holds_55 rfl (by decide) ?_
      refine G_goto (t := 60) cx dX8_holds_56 (by decide) ?_
      refine G_zast (q := 61) cx dX8_holds_60 rfl (by decide) rfl rfl (Nat.le_of_ble_eq_true rfl) (fun g65 g66 => ?_)
      refine G_goto (t := 237) cx dX8_holds_61 (by decide) ?_
      refine G_iinc (q := 240) (j := 2) (v := x4_3 + 1) (ls' := [(4, .int (x4_3 + 1)), (5, .int (gI S_3 33 0 x4_3.toNatClampNeg)), (3, .int x3_3), (0, .ref (ad 8 0)), (1, .int a1), (2, .int a2)]) cx dX8_holds_237 rfl rfl rfl (Nat.le_of_ble_eq_true rfl) rfl ?_
      refine G_goto (t := 10) cx dX8_holds_240 (by decide) ?_
      exact G_loc [2, 0, 3, 4, 5] rfl (ih_3 x3_3 (x4_3 + 1) (sI S_3 36 0 (x3_3 - (1 : Int32)).toNatClampNeg (vp_nar .boolean (1 : Int32))))
  refine G_loc [1, 0, 2, 3, 4] rfl (lp_3 _ (fun y3_3 y4_3 T_3 => ?_) 1000 (0 : Int32) (gI S 31 0 a1.toNatClampNeg) S)
  refine G_aload_n (q := 244) cx dX8_holds_243 rfl rfl ?_
  refine G_getr (q := 247) (g := 36) (i' := 0) cx dX8_holds_244 rfl cf_8 fl_RX8_95 (Nat.le_of_ble_eq_true rfl) rfl rfl (Nat.le_of_ble_eq_true rfl) ?_
  refine G_iconst (q := 248) (v := (0 : Int32)) cx dX8_holds_247 rfl (by decide) ?_
  refine G_zald (q := 249) cx dX8_holds_248 rfl (by decide) rfl rfl (Nat.le_of_ble_eq_true rfl) (fun g4 g5 => ?_)
  refine G_guard (fun g6 => ?_)
  exact G_zret (ty := .boolean) cx rfl dX8_holds_249 (nz01 g6) (nz01 g6)
def L_X8_gain_12 (a1 : Int32) (K_7 : Int32 → Int32 → St → Option (Int32 × St)) : Nat → Int32 → Int32 → St → Option (Int32 × St)
  | 0, _, _, _ => none
  | n + 1, x2_7, x3_7, S_7 =>
    bnd (F_X8_behind S_7) (fun r8 S9 =>
    if r8 ≤ x3_7 then (K_7 x2_7 x3_7 S9)
    else (if 0 ≤ x3_7 ∧ x3_7.toNatClampNeg < 60 then (if (1 : Int32) < (gI S9 29 0 x3_7.toNatClampNeg) then (L_X8_gain_12 a1 K_7 n x2_7 (x3_7 + 1) S9)
    else (bnd (F_X8_holds S9 x3_7 a1) (fun r16 S17 =>
    if r16 = 0 then (L_X8_gain_12 a1 K_7 n x2_7 (x3_7 + 1) S17)
    else (if 0 ≤ x3_7 ∧ x3_7.toNatClampNeg < 60 then (if (gI S17 29 0 x3_7.toNatClampNeg) = 0 then (if 0 ≤ x3_7 ∧ x3_7.toNatClampNeg < 60 then (L_X8_gain_12 a1 K_7 n (x2_7 + (gI S17 30 0 x3_7.toNatClampNeg)) (x3_7 + 1) S17)
    else none)
    else (if 0 ≤ x3_7 ∧ x3_7.toNatClampNeg < 60 then (L_X8_gain_12 a1 K_7 n (x2_7 + (-(gI S17 30 0 x3_7.toNatClampNeg))) (x3_7 + 1) S17)
    else none))
    else none))))
    else none))
def F_X8_gain (S : St) (a1 : Int32) : Option (Int32 × St) :=
  if 0 ≤ a1 ∧ a1.toNatClampNeg < 6 then (bnd (F_X8_begin S) (fun r3 S4 =>
  L_X8_gain_12 a1 
  (fun y2_7 y3_7 T_7 => some (y2_7, T_7)) 1000 (gI S 25 0 a1.toNatClampNeg) r3 S4))
  else none
set_option maxRecDepth 10000 in
theorem c_X8_gain (l : Launch) {D : va_G} {cy : Nat → ClassId} {ad : Nat → Nat → Nat} (hJ : wJ ad nM) (S : St) (a1 : Int32) : CT l yX8_gain cX8_gain 4 (some .int) 2 D cy ad nM toI okT [.ref (ad 8 0), .int a1] S (F_X8_gain S a1) := by
  refine CT.of RX8 (by decide) rfl hJ (Nat.le_of_ble_eq_true rfl) rfl ?_
  intro p e s m below meth c cx
  unfold F_X8_gain
  refine G_aload_n (q := 1) cx dX8_gain_0 rfl rfl ?_
  refine G_getr (q := 4) (g := 25) (i' := 0) cx dX8_gain_1 rfl cf_8 fl_RX8_38 (Nat.le_of_ble_eq_true rfl) rfl rfl (Nat.le_of_ble_eq_true rfl) ?_
  refine G_iload_n (q := 5) cx dX8_gain_4 rfl rfl ?_
  refine G_iald (q := 6) cx dX8_gain_5 rfl (by decide) rfl rfl (Nat.le_of_ble_eq_true rfl) (fun g1 g2 => ?_)
  refine G_istore_n (q := 7) (ls' := [(2, .int (gI S 25 0 a1.toNatClampNeg)), (0, .ref (ad 8 0)), (1, .int a1)]) cx dX8_gain_6 rfl rfl (Nat.le_of_ble_eq_true rfl) rfl ?_
  refine G_aload_n (q := 8) cx dX8_gain_7 rfl rfl ?_
  refine G_callV (q := 11) (d' := 0) (f := 8) (i := 0) (As := []) (rest := []) (stk := fun r3 => [.int r3]) cx dX8_gain_8 rfl cf_8 (Nat.le_of_ble_eq_true rfl) ml_RX8_285 rfl rfl (Nat.le_of_ble_eq_true rfl) (Nat.le_of_ble_eq_true rfl) (Nat.le_of_ble_eq_true rfl) (c_X8_begin l hJ  _) (fun _ => rfl) (fun r3 S4 h5 o6 => ?_)
  refine G_istore_n (q := 12) (ls' := [(3, .int r3), (2, .int (gI S 25 0 a1.toNatClampNeg)), (0, .ref (ad 8 0)), (1, .int a1)]) cx dX8_gain_11 rfl rfl (Nat.le_of_ble_eq_true rfl) rfl ?_
  have lp_7 : ∀ (K_7 : Int32 → Int32 → St → Option (Int32 × St)) (hK_7 : ∀ (y2_7 : Int32) (y3_7 : Int32) (T_7 : St), TG p l e 2 s m ([.ref (ad 8 0), .int a1] : List Value).toArray below meth c D cy ad nM toI okT T_7 76 [(2, .int y2_7), (3, .int y3_7), (0, .ref (ad 8 0)), (1, .int a1)] [] (K_7 y2_7 y3_7 T_7)), ∀ (n_7 : Nat) (x2_7 : Int32) (x3_7 : Int32) (S_7 : St), TG p l e 2 s m ([.ref (ad 8 0), .int a1] : List Value).toArray below meth c D cy ad nM toI okT S_7 12 [(2, .int x2_7), (3, .int x3_7), (0, .ref (ad 8 0)), (1, .int a1)] [] (L_X8_gain_12 a1 K_7 n_7 x2_7 x3_7 S_7) := by
    intro K_7 hK_7 n_7
    induction n_7 with
    | zero => intros; exact G_none
    | succ n_7 ih_7 =>
      intro x2_7 x3_7 S_7
      rw [L_X8_gain_12.eq_2]
      refine G_iload_n (q := 13) cx dX8_gain_12 rfl rfl ?_
      refine G_aload_n (q := 14) cx dX8_gain_13 rfl rfl ?_
      refine G_callV (q := 17) (d' := 0) (f := 8) (i := 0) (As := []) (rest := [.int x3_7]) (stk := fun r8 => [.int r8, .int x3_7]) cx dX8_gain_14 rfl cf_8 (Nat.le_of_ble_eq_true rfl) ml_RX8_288 rfl rfl (Nat.le_of_ble_eq_true rfl) (Nat.le_of_ble_eq_true rfl) (Nat.le_of_ble_eq_true rfl) (c_X8_behind l hJ  _) (fun _ => rfl) (fun r8 S9 h10 o11 => ?_)
      refine G_icmp_ge (q := 20) (t := 76) cx dX8_gain_17 rfl (by decide) (fun c12 => ?_) (fun c12 => ?_)
      · exact G_loc [0, 1, 2, 3] rfl (hK_7 x2_7 x3_7 S9)
      refine G_aload_n (q := 21) cx dX8_gain_20 rfl rfl ?_
      refine G_getr (q := 24) (g := 29) (i' := 0) cx dX8_gain_21 rfl cf_8 fl_RX8_65 (Nat.le_of_ble_eq_true rfl) rfl rfl (Nat.le_of_ble_eq_true rfl) ?_
      refine G_iload_n (q := 25) cx dX8_gain_24 rfl rfl ?_
      refine G_iald (q := 26) cx dX8_gain_25 rfl (by decide) rfl rfl (Nat.le_of_ble_eq_true rfl) (fun g13 g14 => ?_)
      refine G_iconst (q := 27) (v := (1 : Int32)) cx dX8_gain_26 rfl (by decide) ?_
      refine G_icmp_gt (q := 30) (t := 70) cx dX8_gain_27 rfl (by decide) (fun c15 => ?_) (fun c15 => ?_)
      · refine G_iinc (q := 73) (j := 1) (v := x3_7 + 1) (ls' := [(3, .int (x3_7 + 1)), (2, .int x2_7), (0, .ref (ad 8 0)), (1, .int a1)]) cx dX8_gain_70 rfl rfl rfl (Nat.le_of_ble_eq_true rfl) rfl ?_
        refine G_goto (t := 12) cx dX8_gain_73 (by decide) ?_
        exact G_loc [1, 0, 2, 3] rfl (ih_7 x2_7 (x3_7 + 1) S9)
      refine G_aload_n (q := 31) cx dX8_gain_30 rfl rfl ?_
      refine G_iload_n (q := 32) cx dX8_gain_31 rfl rfl ?_
      refine G_iload_n (q := 33) cx dX8_gain_32 rfl rfl ?_
      refine G_callV (q := 36) (d' := 1) (f := 8) (i := 0) (As := [.int x3_7, .int a1]) (rest := []) (stk := fun r16 => [.int r16]) cx dX8_gain_33 rfl cf_8 (Nat.le_of_ble_eq_true rfl) ml_RX8_298 rfl rfl (Nat.le_of_ble_eq_true rfl) (Nat.le_of_ble_eq_true rfl) (Nat.le_of_ble_eq_true rfl) (c_X8_holds l hJ  _ x3_7 a1) (fun _ => rfl) (fun r16 S17 h18 o19 => ?_)
      refine G_if_ne (q := 39) (t := 42) cx dX8_gain_36 rfl (by decide) (fun c20 => ?_) (fun c20 => ?_)
      · refine G_iload_n (q := 43) cx dX8_gain_42 rfl rfl ?_
        refine G_aload_n (q := 44) cx dX8_gain_43 rfl rfl ?_
        refine G_getr (q := 47) (g := 29) (i' := 0) cx dX8_gain_44 rfl cf_8 fl_RX8_65 (Nat.le_of_ble_eq_true rfl) rfl rfl (Nat.le_of_ble_eq_true rfl) ?_
        refine G_iload_n (q := 48) cx dX8_gain_47 rfl rfl ?_
        refine G_iald (q := 49) cx dX8_gain_48 rfl (by decide) rfl rfl (Nat.le_of_ble_eq_true rfl) (fun g21 g22 => ?_)
        refine G_if_ne (q := 52) (t := 61) cx dX8_gain_49 rfl (by decide) (fun c23 => ?_) (fun c23 => ?_)
        · refine G_aload_n (q := 62) cx dX8_gain_61 rfl rfl ?_
          refine G_getr (q := 65) (g := 30) (i' := 0) cx dX8_gain_62 rfl cf_8 fl_RX8_68 (Nat.le_of_ble_eq_true rfl) rfl rfl (Nat.le_of_ble_eq_true rfl) ?_
          refine G_iload_n (q := 66) cx dX8_gain_65 rfl rfl ?_
          refine G_iald (q := 67) cx dX8_gain_66 rfl (by decide) rfl rfl (Nat.le_of_ble_eq_true rfl) (fun g24 g25 => ?_)
          refine G_ineg (q := 68) cx dX8_gain_67 rfl ?_
          refine G_iadd (q := 69) cx dX8_gain_68 rfl ?_
          refine G_istore_n (q := 70) (ls' := [(2, .int (x2_7 + (-(gI S17 30 0 x3_7.toNatClampNeg)))), (3, .int x3_7), (0, .ref (ad 8 0)), (1, .int a1)]) cx dX8_gain_69 rfl rfl (Nat.le_of_ble_eq_true rfl) rfl ?_
          refine G_iinc (q := 73) (j := 1) (v := x3_7 + 1) (ls' := [(3, .int (x3_7 + 1)), (2, .int (x2_7 + (-(gI S17 30 0 x3_7.toNatClampNeg)))), (0, .ref (ad 8 0)), (1, .int a1)]) cx dX8_gain_70 rfl rfl rfl (Nat.le_of_ble_eq_true rfl) rfl ?_
          refine G_goto (t := 12) cx dX8_gain_73 (by decide) ?_
          exact G_loc [1, 0, 2, 3] rfl (ih_7 (x2_7 + (-(gI S17 30 0 x3_7.toNatClampNeg))) (x3_7 + 1) S17)
        refine G_aload_n (q := 53) cx dX8_gain_52 rfl rfl ?_
        refine G_getr (q := 56) (g := 30) (i' := 0) cx dX8_gain_53 rfl cf_8 fl_RX8_68 (Nat.le_of_ble_eq_true rfl) rfl rfl (Nat.le_of_ble_eq_true rfl) ?_
        refine G_iload_n (q := 57) cx dX8_gain_56 rfl rfl ?_
        refine G_iald (q := 58) cx dX8_gain_57 rfl (by decide) rfl rfl (Nat.le_of_ble_eq_true rfl) (fun g26 g27 => ?_)
        refine G_goto (t := 68) cx dX8_gain_58 (by decide) ?_
        refine G_iadd (q := 69) cx dX8_gain_68 rfl ?_
        refine G_istore_n (q := 70) (ls' := [(2, .int (x2_7 + (gI S17 30 0 x3_7.toNatClampNeg))), (3, .int x3_7), (0, .ref (ad 8 0)), (1, .int a1)]) cx dX8_gain_69 rfl rfl (Nat.le_of_ble_eq_true rfl) rfl ?_
        refine G_iinc (q := 73) (j := 1) (v := x3_7 + 1) (ls' := [(3, .int (x3_7 + 1)), (2, .int (x2_7 + (gI S17 30 0 x3_7.toNatClampNeg))), (0, .ref (ad 8 0)), (1, .int a1)]) cx dX8_gain_70 rfl rfl rfl (Nat.le_of_ble_eq_true rfl) rfl ?_
        refine G_goto (t := 12) cx dX8_gain_73 (by decide) ?_
        exact G_loc [1, 0, 2, 3] rfl (ih_7 (x2_7 + (gI S17 30 0 x3_7.toNatClampNeg)) (x3_7 + 1) S17)
      refine G_goto (t := 70) cx dX8_gain_39 (by decide) ?_
      refine G_iinc (q := 73) (j := 1) (v := x3_7 + 1) (ls' := [(3, .int (x3_7 + 1)), (2, .int x2_7), (0, .ref (ad 8 0)), (1, .int a1)]) cx dX8_gain_70 rfl rfl rfl (Nat.le_of_ble_eq_true rfl) rfl ?_
      refine G_goto (t := 12) cx dX8_gain_73 (by decide) ?_
      exact G_loc [1, 0, 2, 3] rfl (ih_7 x2_7 (x3_7 + 1) S17)
  refine G_loc [1, 0, 2, 3] rfl (lp_7 _ (fun y2_7 y3_7 T_7 => ?_) 1000 (gI S 25 0 a1.toNatClampNeg) r3 S4)
  refine G_iload_n (q := 77) cx dX8_gain_76 rfl rfl ?_
  exact G_iret cx rfl dX8_gain_77 trivial
def F_X8_climb (S : St) (a1 : Int32) : Option (Int32 × St) :=
  bnd (F_X8_gain S a1) (fun r1 S2 =>
  if 0 ≤ a1 ∧ a1.toNatClampNeg < 6 then (if (gI S2 22 0 a1.toNatClampNeg) = 1 then (if 0 ≤ a1 ∧ a1.toNatClampNeg < 6 then (some (r1 + ((gI S2 23 0 a1.toNatClampNeg) / (2 : Int32)), S2))
  else none)
  else (if (gI S2 22 0 a1.toNatClampNeg) = 2 then (some (r1 / (2 : Int32), S2))
  else (if (gI S2 22 0 a1.toNatClampNeg) = 3 then (if (gI S2 8 0 1) < (100 : Int32) then (some (r1, S2))
  else (some ((-2 : Int32), S2)))
  else (if (gI S2 22 0 a1.toNatClampNeg) = 4 then (if 0 ≤ a1 ∧ a1.toNatClampNeg < 6 then (if (gI S2 8 0 3) ≤ ((40 : Int32) * (gI S2 23 0 a1.toNatClampNeg)) then (if 0 ≤ a1 ∧ a1.toNatClampNeg < 6 then (some (r1 + ((gI S2 23 0 a1.toNatClampNeg) / (2 : Int32)), S2))
  else none)
  else (some ((0 : Int32), S2)))
  else none)
  else (if (gI S2 22 0 a1.toNatClampNeg) = 5 then (if 0 ≤ a1 ∧ a1.toNatClampNeg < 6 then (if ((gI S2 23 0 a1.toNatClampNeg) + (2 : Int32)) = 0 then none else (if ((gI S2 8 0 1) - (gI S2 8 0 1) / ((gI S2 23 0 a1.toNatClampNeg) + (2 : Int32)) * ((gI S2 23 0 a1.toNatClampNeg) + (2 : Int32))) = 0 then (some ((-1 : Int32), S2))
  else (some (r1 / (2 : Int32), S2))))
  else none)
  else (if (gI S2 22 0 a1.toNatClampNeg) = 6 then (if (gI S2 8 0 1) < (100 : Int32) then (if 0 ≤ (((4 : Int32) * a1) + ((gI S2 8 0 1) - (gI S2 8 0 1) / (4 : Int32) * (4 : Int32))) ∧ (((4 : Int32) * a1) + ((gI S2 8 0 1) - (gI S2 8 0 1) / (4 : Int32) * (4 : Int32))).toNatClampNeg < 24 then (some (r1 + (gI S2 26 0 (((4 : Int32) * a1) + ((gI S2 8 0 1) - (gI S2 8 0 1) / (4 : Int32) * (4 : Int32))).toNatClampNeg), S2))
  else none)
  else (if 0 ≤ (((4 : Int32) * a1) + ((gI S2 8 0 1) - (gI S2 8 0 1) / (4 : Int32) * (4 : Int32))) ∧ (((4 : Int32) * a1) + ((gI S2 8 0 1) - (gI S2 8 0 1) / (4 : Int32) * (4 : Int32))).toNatClampNeg < 24 then (some ((-2 : Int32) + (gI S2 26 0 (((4 : Int32) * a1) + ((gI S2 8 0 1) - (gI S2 8 0 1) / (4 : Int32) * (4 : Int32))).toNatClampNeg), S2))
  else none))
  else (some (r1, S2))))))))
  else none)
set_option maxRecDepth 10000 in
theorem c_X8_climb (l : Launch) {D : va_G} {cy : Nat → ClassId} {ad : Nat → Nat → Nat} (hJ : wJ ad nM) (S : St) (a1 : Int32) : CT l yX8_climb cX8_climb 3 (some .int) 3 D cy ad nM toI okT [.ref (ad 8 0), .int a1] S (F_X8_climb S a1) := by
  refine CT.of RX8 (by decide) rfl hJ (Nat.le_of_ble_eq_true rfl) rfl ?_
  intro p e s m below meth c cx
  unfold F_X8_climb
  refine G_aload_n (q := 1) cx dX8_climb_0 rfl rfl ?_
  refine G_iload_n (q := 2) cx dX8_climb_1 rfl rfl ?_
  refine G_callV (q := 5) (d' := 2) (f := 8) (i := 0) (As := [.int a1]) (rest := []) (stk := fun r1 => [.int r1]) cx dX8_climb_2 rfl cf_8 (Nat.le_of_ble_eq_true rfl) ml_RX8_301 rfl rfl (Nat.le_of_ble_eq_true rfl) (Nat.le_of_ble_eq_true rfl) (Nat.le_of_ble_eq_true rfl) (c_X8_gain l hJ  _ a1) (fun _ => rfl) (fun r1 S2 h3 o4 => ?_)
  refine G_istore_n (q := 6) (ls' := [(2, .int r1), (0, .ref (ad 8 0)), (1, .int a1)]) cx dX8_climb_5 rfl rfl (Nat.le_of_ble_eq_true rfl) rfl ?_
  refine G_aload_n (q := 7) cx dX8_climb_6 rfl rfl ?_
  refine G_getr (q := 10) (g := 22) (i' := 0) cx dX8_climb_7 rfl cf_8 fl_RX8_28 (Nat.le_of_ble_eq_true rfl) rfl rfl (Nat.le_of_ble_eq_true rfl) ?_
  refine G_iload_n (q := 11) cx dX8_climb_10 rfl rfl ?_
  refine G_iald (q := 12) cx dX8_climb_11 rfl (by decide) rfl rfl (Nat.le_of_ble_eq_true rfl) (fun g5 g6 => ?_)
  refine G_case (fun w7 => ?_) (fun w7 => ?_)
  · refine G_tswIn (t := 52) (off := 40) cx dX8_climb_12 w7 (by decide) (by decide) (by decide) (by decide) ?_
    refine G_iload_n (q := 53) cx dX8_climb_52 rfl rfl ?_
    refine G_aload_n (q := 54) cx dX8_climb_53 rfl rfl ?_
    refine G_getr (q := 57) (g := 23) (i' := 0) cx dX8_climb_54 rfl cf_8 fl_RX8_32 (Nat.le_of_ble_eq_true rfl) rfl rfl (Nat.le_of_ble_eq_true rfl) ?_
    refine G_iload_n (q := 58) cx dX8_climb_57 rfl rfl ?_
    refine G_iald (q := 59) cx dX8_climb_58 rfl (by decide) rfl rfl (Nat.le_of_ble_eq_true rfl) (fun g8 g9 => ?_)
    refine G_iconst (q := 60) (v := (2 : Int32)) cx dX8_climb_59 rfl (by decide) ?_
    refine G_idiv (q := 61) cx dX8_climb_60 rfl (by decide) ?_
    refine G_iadd (q := 62) cx dX8_climb_61 rfl ?_
    exact G_iret cx rfl dX8_climb_62 trivial
  refine G_case (fun w10 => ?_) (fun w10 => ?_)
  · refine G_tswIn (t := 63) (off := 51) cx dX8_climb_12 w10 (by decide) (by decide) (by decide) (by decide) ?_
    refine G_iload_n (q := 64) cx dX8_climb_63 rfl rfl ?_
    refine G_iconst (q := 65) (v := (2 : Int32)) cx dX8_climb_64 rfl (by decide) ?_
    refine G_idiv (q := 66) cx dX8_climb_65 rfl (by decide) ?_
    exact G_iret cx rfl dX8_climb_66 trivial
  refine G_case (fun w11 => ?_) (fun w11 => ?_)
  · refine G_tswIn (t := 67) (off := 55) cx dX8_climb_12 w11 (by decide) (by decide) (by decide) (by decide) ?_
    refine G_aload_n (q := 68) cx dX8_climb_67 rfl rfl ?_
    refine G_geti (q := 71) cx dX8_climb_68 rfl cf_8 fl_RX8_13 (Nat.le_of_ble_eq_true rfl) rfl (Nat.le_of_ble_eq_true rfl) ?_
    refine G_bipush (q := 73) (v := (100 : Int32)) cx dX8_climb_71 rfl (by decide) ?_
    refine G_icmp_lt (q := 76) (t := 81) cx dX8_climb_73 rfl (by decide) (fun c12 => ?_) (fun c12 => ?_)
    · refine G_iload_n (q := 82) cx dX8_climb_81 rfl rfl ?_
      exact G_iret cx rfl dX8_climb_82 trivial
    · refine G_bipush (q := 78) (v := (-2 : Int32)) cx dX8_climb_76 rfl (by decide) ?_
      refine G_goto (t := 82) cx dX8_climb_78 (by decide) ?_
      exact G_iret cx rfl dX8_climb_82 trivial
  refine G_case (fun w13 => ?_) (fun w13 => ?_)
  · refine G_tswIn (t := 83) (off := 71) cx dX8_climb_12 w13 (by decide) (by decide) (by decide) (by decide) ?_
    refine G_aload_n (q := 84) cx dX8_climb_83 rfl rfl ?_
    refine G_geti (q := 87) cx dX8_climb_84 rfl cf_8 fl_RX8_19 (Nat.le_of_ble_eq_true rfl) rfl (Nat.le_of_ble_eq_true rfl) ?_
    refine G_bipush (q := 89) (v := (40 : Int32)) cx dX8_climb_87 rfl (by decide) ?_
    refine G_aload_n (q := 90) cx dX8_climb_89 rfl rfl ?_
    refine G_getr (q := 93) (g := 23) (i' := 0) cx dX8_climb_90 rfl cf_8 fl_RX8_32 (Nat.le_of_ble_eq_true rfl) rfl rfl (Nat.le_of_ble_eq_true rfl) ?_
    refine G_iload_n (q := 94) cx dX8_climb_93 rfl rfl ?_
    refine G_iald (q := 95) cx dX8_climb_94 rfl (by decide) rfl rfl (Nat.le_of_ble_eq_true rfl) (fun g14 g15 => ?_)
    refine G_imul (q := 96) cx dX8_climb_95 rfl ?_
    refine G_icmp_le (q := 99) (t := 103) cx dX8_climb_96 rfl (by decide) (fun c16 => ?_) (fun c16 => ?_)
    · refine G_iload_n (q := 104) cx dX8_climb_103 rfl rfl ?_
      refine G_aload_n (q := 105) cx dX8_climb_104 rfl rfl ?_
      refine G_getr (q := 108) (g := 23) (i' := 0) cx dX8_climb_105 rfl cf_8 fl_RX8_32 (Nat.le_of_ble_eq_true rfl) rfl rfl (Nat.le_of_ble_eq_true rfl) ?_
      refine G_iload_n (q := 109) cx dX8_climb_108 rfl rfl ?_
      refine G_iald (q := 110) cx dX8_climb_109 rfl (by decide) rfl rfl (Nat.le_of_ble_eq_true rfl) (fun g17 g18 => ?_)
      refine G_iconst (q := 111) (v := (2 : Int32)) cx dX8_climb_110 rfl (by decide) ?_
      refine G_idiv (q := 112) cx dX8_climb_111 rfl (by decide) ?_
      refine G_iadd (q := 113) cx dX8_climb_112 rfl ?_
      exact G_iret cx rfl dX8_climb_113 trivial
    · refine G_iconst (q := 100) (v := (0 : Int32)) cx dX8_climb_99 rfl (by decide) ?_
      refine G_goto (t := 113) cx dX8_climb_100 (by decide) ?_
      exact G_iret cx rfl dX8_climb_113 trivial
  refine G_case (fun w19 => ?_) (fun w19 => ?_)
  · refine G_tswIn (t := 114) (off := 102) cx dX8_climb_12 w19 (by decide) (by decide) (by decide) (by decide) ?_
    refine G_aload_n (q := 115) cx dX8_climb_114 rfl rfl ?_
    refine G_geti (q := 118) cx dX8_climb_115 rfl cf_8 fl_RX8_13 (Nat.le_of_ble_eq_true rfl) rfl (Nat.le_of_ble_eq_true rfl) ?_
    refine G_aload_n (q := 119) cx dX8_climb_118 rfl rfl ?_
    refine G_getr (q := 122) (g := 23) (i' := 0) cx dX8_climb_119 rfl cf_8 fl_RX8_32 (Nat.le_of_ble_eq_true rfl) rfl rfl (Nat.le_of_ble_eq_true rfl) ?_
    refine G_iload_n (q := 123) cx dX8_climb_122 rfl rfl ?_
    refine G_iald (q := 124) cx dX8_climb_123 rfl (by decide) rfl rfl (Nat.le_of_ble_eq_true rfl) (fun g20 g21 => ?_)
    refine G_iconst (q := 125) (v := (2 : Int32)) cx dX8_climb_124 rfl (by decide) ?_
    refine G_iadd (q := 126) cx dX8_climb_125 rfl ?_
    refine G_case (fun _ => G_none) (fun g22 => ?_)
    refine G_irem (q := 127) cx dX8_climb_126 rfl g22 ?_
    refine G_if_ne (q := 130) (t := 134) cx dX8_climb_127 rfl (by decide) (fun c23 => ?_) (fun c23 => ?_)
    · refine G_iload_n (q := 135) cx dX8_climb_134 rfl rfl ?_
      refine G_iconst (q := 136) (v := (2 : Int32)) cx dX8_climb_135 rfl (by decide) ?_
      refine G_idiv (q := 137) cx dX8_climb_136 rfl (by decide) ?_
      exact G_iret cx rfl dX8_climb_137 trivial
    · refine G_iconst (q := 131) (v := (-1 : Int32)) cx dX8_climb_130 rfl (by decide) ?_
      refine G_goto (t := 137) cx dX8_climb_131 (by decide) ?_
      exact G_iret cx rfl dX8_climb_137 trivial
  refine G_case (fun w24 => ?_) (fun w24 => ?_)
  · refine G_tswIn (t := 138) (off := 126) cx dX8_climb_12 w24 (by decide) (by decide) (by decide) (by decide) ?_
    refine G_aload_n (q := 139) cx dX8_climb_138 rfl rfl ?_
    refine G_geti (q := 142) cx dX8_climb_139 rfl cf_8 fl_RX8_13 (Nat.le_of_ble_eq_true rfl) rfl (Nat.le_of_ble_eq_true rfl) ?_
    refine G_bipush (q := 144) (v := (100 : Int32)) cx dX8_climb_142 rfl (by decide) ?_
    refine G_icmp_lt (q := 147) (t := 152) cx dX8_climb_144 rfl (by decide) (fun c25 => ?_) (fun c25 => ?_)
    · refine G_iload_n (q := 153) cx dX8_climb_152 rfl rfl ?_
      refine G_aload_n (q := 154) cx dX8_climb_153 rfl rfl ?_
      refine G_getr (q := 157) (g := 26) (i' := 0) cx dX8_climb_154 rfl cf_8 fl_RX8_41 (Nat.le_of_ble_eq_true rfl) rfl rfl (Nat.le_of_ble_eq_true rfl) ?_
      refine G_iconst (q := 158) (v := (4 : Int32)) cx dX8_climb_157 rfl (by decide) ?_
      refine G_iload_n (q := 159) cx dX8_climb_158 rfl rfl ?_
      refine G_imul (q := 160) cx dX8_climb_159 rfl ?_
      refine G_aload_n (q := 161) cx dX8_climb_160 rfl rfl ?_
      refine G_geti (q := 164) cx dX8_climb_161 rfl cf_8 fl_RX8_13 (Nat.le_of_ble_eq_true rfl) rfl (Nat.le_of_ble_eq_true rfl) ?_
      refine G_iconst (q := 165) (v := (4 : Int32)) cx dX8_climb_164 rfl (by decide) ?_
      refine G_irem (q := 166) cx dX8_climb_165 rfl (by decide) ?_
      refine G_iadd (q := 167) cx dX8_climb_166 rfl ?_
      refine G_iald (q := 168) cx dX8_climb_167 rfl (by decide) rfl rfl (Nat.le_of_ble_eq_true rfl) (fun g26 g27 => ?_)
      refine G_iadd (q := 169) cx dX8_climb_168 rfl ?_
      exact G_iret cx rfl dX8_climb_169 trivial
    refine G_bipush (q := 149) (v := (-2 : Int32)) cx dX8_climb_147 rfl (by decide) ?_
    refine G_goto (t := 153) cx dX8_climb_149 (by decide) ?_
    refine G_aload_n (q := 154) cx dX8_climb_153 rfl rfl ?_
    refine G_getr (q := 157) (g := 26) (i' := 0) cx dX8_climb_154 rfl cf_8 fl_RX8_41 (Nat.le_of_ble_eq_true rfl) rfl rfl (Nat.le_of_ble_eq_true rfl) ?_
    refine G_iconst (q := 158) (v := (4 : Int32)) cx dX8_climb_157 rfl (by decide) ?_
    refine G_iload_n (q := 159) cx dX8_climb_158 rfl rfl ?_
    refine G_imul (q := 160) cx dX8_climb_159 rfl ?_
    refine G_aload_n (q := 161) cx dX8_climb_160 rfl rfl ?_
    refine G_geti (q := 164) cx dX8_climb_161 rfl cf_8 fl_RX8_13 (Nat.le_of_ble_eq_true rfl) rfl (Nat.le_of_ble_eq_true rfl) ?_
    refine G_iconst (q := 165) (v := (4 : Int32)) cx dX8_climb_164 rfl (by decide) ?_
    refine G_irem (q := 166) cx dX8_climb_165 rfl (by decide) ?_
    refine G_iadd (q := 167) cx dX8_climb_166 rfl ?_
    refine G_iald (q := 168) cx dX8_climb_167 rfl (by decide) rfl rfl (Nat.le_of_ble_eq_true rfl) (fun g28 g29 => ?_)
    refine G_iadd (q := 169) cx dX8_climb_168 rfl ?_
    exact G_iret cx rfl dX8_climb_169 trivial
  have hz12_0 := lv_neT w7 (show (1 : Int32).toInt = 1 by decide)
  have hz12_1 := lv_neT w10 (show (2 : Int32).toInt = 2 by decide)
  have hz12_2 := lv_neT w11 (show (3 : Int32).toInt = 3 by decide)
  have hz12_3 := lv_neT w13 (show (4 : Int32).toInt = 4 by decide)
  have hz12_4 := lv_neT w19 (show (5 : Int32).toInt = 5 by decide)
  have hz12_5 := lv_neT w24 (show (6 : Int32).toInt = 6 by decide)
  refine G_tswOut (t := 170) cx dX8_climb_12 (by omega) (by decide) ?_
  refine G_iload_n (q := 171) cx dX8_climb_170 rfl rfl ?_
  exact G_iret cx rfl dX8_climb_171 trivial
def F_X8_of (S : St) (a1 : Int32) (a2 : Int32) : Option (Int32 × St) :=
  bnd (F_X8_isLift S a1) (fun r1 S2 =>
  if r1 = 0 then (some ((-1001 : Int32), S2))
  else (if a2 = 0 then (if 0 ≤ a1 ∧ a1.toNatClampNeg < 6 then (some (gI S2 22 0 a1.toNatClampNeg, S2))
  else none)
  else (if a2 = 1 then (if 0 ≤ a1 ∧ a1.toNatClampNeg < 6 then (some (gI S2 23 0 a1.toNatClampNeg, S2))
  else none)
  else (if a2 = 2 then (if 0 ≤ a1 ∧ a1.toNatClampNeg < 6 then (some (gI S2 24 0 a1.toNatClampNeg, S2))
  else none)
  else (if a2 = 3 then (if 0 ≤ a1 ∧ a1.toNatClampNeg < 6 then (some (gI S2 25 0 a1.toNatClampNeg, S2))
  else none)
  else (if a2 = 4 then (bnd (F_X8_gain S2 a1) (fun r19 S20 =>
  some (r19, S20)))
  else (if a2 = 5 then (bnd (F_X8_climb S2 a1) (fun r24 S25 =>
  some (r24, S25)))
  else (some ((-1001 : Int32), S2)))))))))
set_option maxRecDepth 10000 in
theorem c_X8_of (l : Launch) {D : va_G} {cy : Nat → ClassId} {ad : Nat → Nat → Nat} (hJ : wJ ad nM) (S : St) (a1 : Int32) (a2 : Int32) : CT l yX8_of cX8_of 3 (some .int) 4 D cy ad nM toI okT [.ref (ad 8 0), .int a1, .int a2] S (F_X8_of S a1 a2) := by
  refine CT.of RX8 (by decide) rfl hJ (Nat.le_of_ble_eq_true rfl) rfl ?_
  intro p e s m below meth c cx
  unfold F_X8_of
  refine G_aload_n (q := 1) cx dX8_of_0 rfl rfl ?_
  refine G_iload_n (q := 2) cx dX8_of_1 rfl rfl ?_
  refine G_callV (q := 5) (d' := 1) (f := 8) (i := 0) (As := [.int a1]) (rest := []) (stk := fun r1 => [.int r1]) cx dX8_of_2 rfl cf_8 (Nat.le_of_ble_eq_true rfl) ml_RX8_235 rfl rfl (Nat.le_of_ble_eq_true rfl) (Nat.le_of_ble_eq_true rfl) (Nat.le_of_ble_eq_true rfl) (c_X8_isLift l hJ  _ a1) (fun _ => rfl) (fun r1 S2 h3 o4 => ?_)
  refine G_if_ne (q := 8) (t := 12) cx dX8_of_5 rfl (by decide) (fun c5 => ?_) (fun c5 => ?_)
  · refine G_iload_n (q := 13) cx dX8_of_12 rfl rfl ?_
    refine G_case (fun w6 => ?_) (fun w6 => ?_)
    · refine G_tswIn (t := 52) (off := 39) cx dX8_of_13 w6 (by decide) (by decide) (by decide) (by decide) ?_
      refine G_aload_n (q := 53) cx dX8_of_52 rfl rfl ?_
      refine G_getr (q := 56) (g := 22) (i' := 0) cx dX8_of_53 rfl cf_8 fl_RX8_28 (Nat.le_of_ble_eq_true rfl) rfl rfl (Nat.le_of_ble_eq_true rfl) ?_
      refine G_iload_n (q := 57) cx dX8_of_56 rfl rfl ?_
      refine G_iald (q := 58) cx dX8_of_57 rfl (by decide) rfl rfl (Nat.le_of_ble_eq_true rfl) (fun g7 g8 => ?_)
      exact G_iret cx rfl dX8_of_58 trivial
    refine G_case (fun w9 => ?_) (fun w9 => ?_)
    · refine G_tswIn (t := 59) (off := 46) cx dX8_of_13 w9 (by decide) (by decide) (by decide) (by decide) ?_
      refine G_aload_n (q := 60) cx dX8_of_59 rfl rfl ?_
      refine G_getr (q := 63) (g := 23) (i' := 0) cx dX8_of_60 rfl cf_8 fl_RX8_32 (Nat.le_of_ble_eq_true rfl) rfl rfl (Nat.le_of_ble_eq_true rfl) ?_
      refine G_iload_n (q := 64) cx dX8_of_63 rfl rfl ?_
      refine G_iald (q := 65) cx dX8_of_64 rfl (by decide) rfl rfl (Nat.le_of_ble_eq_true rfl) (fun g10 g11 => ?_)
      exact G_iret cx rfl dX8_of_65 trivial
    refine G_case (fun w12 => ?_) (fun w12 => ?_)
    · refine G_tswIn (t := 66) (off := 53) cx dX8_of_13 w12 (by decide) (by decide) (by decide) (by decide) ?_
      refine G_aload_n (q := 67) cx dX8_of_66 rfl rfl ?_
      refine G_getr (q := 70) (g := 24) (i' := 0) cx dX8_of_67 rfl cf_8 fl_RX8_35 (Nat.le_of_ble_eq_true rfl) rfl rfl (Nat.le_of_ble_eq_true rfl) ?_
      refine G_iload_n (q := 71) cx dX8_of_70 rfl rfl ?_
      refine G_iald (q := 72) cx dX8_of_71 rfl (by decide) rfl rfl (Nat.le_of_ble_eq_true rfl) (fun g13 g14 => ?_)
      exact G_iret cx rfl dX8_of_72 trivial
    refine G_case (fun w15 => ?_) (fun w15 => ?_)
    · refine G_tswIn (t := 73) (off := 60) cx dX8_of_13 w15 (by decide) (by decide) (by decide) (by decide) ?_
      refine G_aload_n (q := 74) cx dX8_of_73 rfl rfl ?_
      refine G_getr (q := 77) (g := 25) (i' := 0) cx dX8_of_74 rfl cf_8 fl_RX8_38 (Nat.le_of_ble_eq_true rfl) rfl rfl (Nat.le_of_ble_eq_true rfl) ?_
      refine G_iload_n (q := 78) cx dX8_of_77 rfl rfl ?_
      refine G_iald (q := 79) cx dX8_of_78 rfl (by decide) rfl rfl (Nat.le_of_ble_eq_true rfl) (fun g16 g17 => ?_)
      exact G_iret cx rfl dX8_of_79 trivial
    refine G_case (fun w18 => ?_) (fun w18 => ?_)
    · refine G_tswIn (t := 80) (off := 67) cx dX8_of_13 w18 (by decide) (by decide) (by decide) (by decide) ?_
      refine G_aload_n (q := 81) cx dX8_of_80 rfl rfl ?_
      refine G_iload_n (q := 82) cx dX8_of_81 rfl rfl ?_
      refine G_callV (q := 85) (d' := 2) (f := 8) (i := 0) (As := [.int a1]) (rest := []) (stk := fun r19 => [.int r19]) cx dX8_of_82 rfl cf_8 (Nat.le_of_ble_eq_true rfl) ml_RX8_301 rfl rfl (Nat.le_of_ble_eq_true rfl) (Nat.le_of_ble_eq_true rfl) (Nat.le_of_ble_eq_true rfl) (c_X8_gain l hJ  _ a1) (fun _ => rfl) (fun r19 S20 h21 o22 => ?_)
      exact G_iret cx rfl dX8_of_85 trivial
    refine G_case (fun w23 => ?_) (fun w23 => ?_)
    · refine G_tswIn (t := 86) (off := 73) cx dX8_of_13 w23 (by decide) (by decide) (by decide) (by decide) ?_
      refine G_aload_n (q := 87) cx dX8_of_86 rfl rfl ?_
      refine G_iload_n (q := 88) cx dX8_of_87 rfl rfl ?_
      refine G_callV (q := 91) (d' := 3) (f := 8) (i := 0) (As := [.int a1]) (rest := []) (stk := fun r24 => [.int r24]) cx dX8_of_88 rfl cf_8 (Nat.le_of_ble_eq_true rfl) ml_RX8_304 rfl rfl (Nat.le_of_ble_eq_true rfl) (Nat.le_of_ble_eq_true rfl) (Nat.le_of_ble_eq_true rfl) (c_X8_climb l hJ  _ a1) (fun _ => rfl) (fun r24 S25 h26 o27 => ?_)
      exact G_iret cx rfl dX8_of_91 trivial
    have hz13_0 := lv_neT w6 (show (0 : Int32).toInt = 0 by decide)
    have hz13_1 := lv_neT w9 (show (1 : Int32).toInt = 1 by decide)
    have hz13_2 := lv_neT w12 (show (2 : Int32).toInt = 2 by decide)
    have hz13_3 := lv_neT w15 (show (3 : Int32).toInt = 3 by decide)
    have hz13_4 := lv_neT w18 (show (4 : Int32).toInt = 4 by decide)
    have hz13_5 := lv_neT w23 (show (5 : Int32).toInt = 5 by decide)
    refine G_tswOut (t := 92) cx dX8_of_13 (by omega) (by decide) ?_
    refine G_sipush (q := 95) (v := (-1001 : Int32)) cx dX8_of_92 rfl (by decide) ?_
    exact G_iret cx rfl dX8_of_95 trivial
  · refine G_sipush (q := 11) (v := (-1001 : Int32)) cx dX8_of_8 rfl (by decide) ?_
    exact G_iret cx rfl dX8_of_11 trivial
def F_X8_told (S : St) (a1 : Int32) : Option (Int32 × St) :=
  if a1 = 0 then (some (gI S 8 0 1, S))
  else (if a1 = 1 then (some (gI S 8 0 2, S))
  else (if a1 = 2 then (some (gI S 8 0 3, S))
  else (if a1 = 3 then (if 0 ≤ (gI S 8 0 4) then (some (gI S 8 0 4, S))
  else (some ((-5 : Int32), S)))
  else (if a1 = 4 then (some (gI S 8 0 5, S))
  else (if a1 = 5 then (bnd (F_X8_base S) (fun r8 S9 =>
  some (r8, S9)))
  else (if a1 = 6 then (bnd (F_X8_safe S) (fun r13 S14 =>
  some (r13, S14)))
  else (some ((-1 : Int32), S))))))))
set_option maxRecDepth 10000 in
theorem c_X8_told (l : Launch) {D : va_G} {cy : Nat → ClassId} {ad : Nat → Nat → Nat} (hJ : wJ ad nM) (S : St) (a1 : Int32) : CT l yX8_told cX8_told 2 (some .int) 3 D cy ad nM toI okT [.ref (ad 8 0), .int a1] S (F_X8_told S a1) := by
  refine CT.of RX8 (by decide) rfl hJ (Nat.le_of_ble_eq_true rfl) rfl ?_
  intro p e s m below meth c cx
  unfold F_X8_told
  refine G_iload_n (q := 1) cx dX8_told_0 rfl rfl ?_
  refine G_case (fun w1 => ?_) (fun w1 => ?_)
  · refine G_tswIn (t := 44) (off := 43) cx dX8_told_1 w1 (by decide) (by decide) (by decide) (by decide) ?_
    refine G_aload_n (q := 45) cx dX8_told_44 rfl rfl ?_
    refine G_geti (q := 48) cx dX8_told_45 rfl cf_8 fl_RX8_13 (Nat.le_of_ble_eq_true rfl) rfl (Nat.le_of_ble_eq_true rfl) ?_
    exact G_iret cx rfl dX8_told_48 trivial
  refine G_case (fun w2 => ?_) (fun w2 => ?_)
  · refine G_tswIn (t := 49) (off := 48) cx dX8_told_1 w2 (by decide) (by decide) (by decide) (by decide) ?_
    refine G_aload_n (q := 50) cx dX8_told_49 rfl rfl ?_
    refine G_geti (q := 53) cx dX8_told_50 rfl cf_8 fl_RX8_16 (Nat.le_of_ble_eq_true rfl) rfl (Nat.le_of_ble_eq_true rfl) ?_
    exact G_iret cx rfl dX8_told_53 trivial
  refine G_case (fun w3 => ?_) (fun w3 => ?_)
  · refine G_tswIn (t := 54) (off := 53) cx dX8_told_1 w3 (by decide) (by decide) (by decide) (by decide) ?_
    refine G_aload_n (q := 55) cx dX8_told_54 rfl rfl ?_
    refine G_geti (q := 58) cx dX8_told_55 rfl cf_8 fl_RX8_19 (Nat.le_of_ble_eq_true rfl) rfl (Nat.le_of_ble_eq_true rfl) ?_
    exact G_iret cx rfl dX8_told_58 trivial
  refine G_case (fun w4 => ?_) (fun w4 => ?_)
  · refine G_tswIn (t := 59) (off := 58) cx dX8_told_1 w4 (by decide) (by decide) (by decide) (by decide) ?_
    refine G_aload_n (q := 60) cx dX8_told_59 rfl rfl ?_
    refine G_geti (q := 63) cx dX8_told_60 rfl cf_8 fl_RX8_22 (Nat.le_of_ble_eq_true rfl) rfl (Nat.le_of_ble_eq_true rfl) ?_
    refine G_if_ge (q := 66) (t := 71) cx dX8_told_63 rfl (by decide) (fun c5 => ?_) (fun c5 => ?_)
    · refine G_aload_n (q := 72) cx dX8_told_71 rfl rfl ?_
      refine G_geti (q := 75) cx dX8_told_72 rfl cf_8 fl_RX8_22 (Nat.le_of_ble_eq_true rfl) rfl (Nat.le_of_ble_eq_true rfl) ?_
      exact G_iret cx rfl dX8_told_75 trivial
    · refine G_bipush (q := 68) (v := (-5 : Int32)) cx dX8_told_66 rfl (by decide) ?_
      refine G_goto (t := 75) cx dX8_told_68 (by decide) ?_
      exact G_iret cx rfl dX8_told_75 trivial
  refine G_case (fun w6 => ?_) (fun w6 => ?_)
  · refine G_tswIn (t := 76) (off := 75) cx dX8_told_1 w6 (by decide) (by decide) (by decide) (by decide) ?_
    refine G_aload_n (q := 77) cx dX8_told_76 rfl rfl ?_
    refine G_geti (q := 80) cx dX8_told_77 rfl cf_8 fl_RX8_25 (Nat.le_of_ble_eq_true rfl) rfl (Nat.le_of_ble_eq_true rfl) ?_
    exact G_iret cx rfl dX8_told_80 trivial
  refine G_case (fun w7 => ?_) (fun w7 => ?_)
  · refine G_tswIn (t := 81) (off := 80) cx dX8_told_1 w7 (by decide) (by decide) (by decide) (by decide) ?_
    refine G_aload_n (q := 82) cx dX8_told_81 rfl rfl ?_
    refine G_callV (q := 85) (d' := 2) (f := 8) (i := 0) (As := []) (rest := []) (stk := fun r8 => [.int r8]) cx dX8_told_82 rfl cf_8 (Nat.le_of_ble_eq_true rfl) ml_RX8_307 rfl rfl (Nat.le_of_ble_eq_true rfl) (Nat.le_of_ble_eq_true rfl) (Nat.le_of_ble_eq_true rfl) (c_X8_base l hJ  _) (fun _ => rfl) (fun r8 S9 h10 o11 => ?_)
    exact G_iret cx rfl dX8_told_85 trivial
  refine G_case (fun w12 => ?_) (fun w12 => ?_)
  · refine G_tswIn (t := 86) (off := 85) cx dX8_told_1 w12 (by decide) (by decide) (by decide) (by decide) ?_
    refine G_aload_n (q := 87) cx dX8_told_86 rfl rfl ?_
    refine G_callV (q := 90) (d' := 2) (f := 8) (i := 0) (As := []) (rest := []) (stk := fun r13 => [.int r13]) cx dX8_told_87 rfl cf_8 (Nat.le_of_ble_eq_true rfl) ml_RX8_310 rfl rfl (Nat.le_of_ble_eq_true rfl) (Nat.le_of_ble_eq_true rfl) (Nat.le_of_ble_eq_true rfl) (c_X8_safe l hJ  _) (fun _ => rfl) (fun r13 S14 h15 o16 => ?_)
    exact G_iret cx rfl dX8_told_90 trivial
  have hz1_0 := lv_neT w1 (show (0 : Int32).toInt = 0 by decide)
  have hz1_1 := lv_neT w2 (show (1 : Int32).toInt = 1 by decide)
  have hz1_2 := lv_neT w3 (show (2 : Int32).toInt = 2 by decide)
  have hz1_3 := lv_neT w4 (show (3 : Int32).toInt = 3 by decide)
  have hz1_4 := lv_neT w6 (show (4 : Int32).toInt = 4 by decide)
  have hz1_5 := lv_neT w7 (show (5 : Int32).toInt = 5 by decide)
  have hz1_6 := lv_neT w12 (show (6 : Int32).toInt = 6 by decide)
  refine G_tswOut (t := 91) cx dX8_told_1 (by omega) (by decide) ?_
  refine G_iconst (q := 92) (v := (-1 : Int32)) cx dX8_told_91 rfl (by decide) ?_
  exact G_iret cx rfl dX8_told_92 trivial
def F_X8_goMinute (S : St) (a1 : Int32) : Option (Unit × St) :=
  bnd (F_X8_climb S a1) (fun r1 S2 =>
  bnd (F_X8_base S2) (fun r5 S6 =>
  if r5 ≤ (gI S6 8 0 3) then (if r1 ≤ 0 then (if 0 ≤ ((gI S6 8 0 3) + r1) then (some ((), (sI (sI S6 8 0 3 ((gI S6 8 0 3) + r1)) 8 0 1 ((gI (sI S6 8 0 3 ((gI S6 8 0 3) + r1)) 8 0 1) + (1 : Int32)))))
  else (some ((), (sI (sI S6 8 0 3 (0 : Int32)) 8 0 1 ((gI (sI S6 8 0 3 (0 : Int32)) 8 0 1) + (1 : Int32))))))
  else (if ((gI S6 8 0 3) + r1) ≤ (gI S6 8 0 3) then (if 0 ≤ ((gI S6 8 0 3) + r1) then (some ((), (sI (sI S6 8 0 3 ((gI S6 8 0 3) + r1)) 8 0 1 ((gI (sI S6 8 0 3 ((gI S6 8 0 3) + r1)) 8 0 1) + (1 : Int32)))))
  else (some ((), (sI (sI S6 8 0 3 (0 : Int32)) 8 0 1 ((gI (sI S6 8 0 3 (0 : Int32)) 8 0 1) + (1 : Int32))))))
  else (some ((), (sI (sI S6 8 0 3 (gI S6 8 0 3)) 8 0 1 ((gI (sI S6 8 0 3 (gI S6 8 0 3)) 8 0 1) + (1 : Int32)))))))
  else (bnd (F_X8_base S6) (fun r14 S15 =>
  if r1 ≤ 0 then (if 0 ≤ ((gI S15 8 0 3) + r1) then (some ((), (sI (sI S15 8 0 3 ((gI S15 8 0 3) + r1)) 8 0 1 ((gI (sI S15 8 0 3 ((gI S15 8 0 3) + r1)) 8 0 1) + (1 : Int32)))))
  else (some ((), (sI (sI S15 8 0 3 (0 : Int32)) 8 0 1 ((gI (sI S15 8 0 3 (0 : Int32)) 8 0 1) + (1 : Int32))))))
  else (if ((gI S15 8 0 3) + r1) ≤ r14 then (if 0 ≤ ((gI S15 8 0 3) + r1) then (some ((), (sI (sI S15 8 0 3 ((gI S15 8 0 3) + r1)) 8 0 1 ((gI (sI S15 8 0 3 ((gI S15 8 0 3) + r1)) 8 0 1) + (1 : Int32)))))
  else (some ((), (sI (sI S15 8 0 3 (0 : Int32)) 8 0 1 ((gI (sI S15 8 0 3 (0 : Int32)) 8 0 1) + (1 : Int32))))))
  else (some ((), (sI (sI S15 8 0 3 r14) 8 0 1 ((gI (sI S15 8 0 3 r14) 8 0 1) + (1 : Int32))))))))))
set_option maxRecDepth 10000 in
theorem c_X8_goMinute (l : Launch) {D : va_G} {cy : Nat → ClassId} {ad : Nat → Nat → Nat} (hJ : wJ ad nM) (S : St) (a1 : Int32) : CT l yX8_goMinute cX8_goMinute 5 none 4 D cy ad nM toU okT [.ref (ad 8 0), .int a1] S (F_X8_goMinute S a1) := by
  refine CT.of RX8 (by decide) rfl hJ (Nat.le_of_ble_eq_true rfl) rfl ?_
  intro p e s m below meth c cx
  unfold F_X8_goMinute
  refine G_aload_n (q := 1) cx dX8_goMinute_0 rfl rfl ?_
  refine G_iload_n (q := 2) cx dX8_goMinute_1 rfl rfl ?_
  refine G_callV (q := 5) (d' := 3) (f := 8) (i := 0) (As := [.int a1]) (rest := []) (stk := fun r1 => [.int r1]) cx dX8_goMinute_2 rfl cf_8 (Nat.le_of_ble_eq_true rfl) ml_RX8_304 rfl rfl (Nat.le_of_ble_eq_true rfl) (Nat.le_of_ble_eq_true rfl) (Nat.le_of_ble_eq_true rfl) (c_X8_climb l hJ  _ a1) (fun _ => rfl) (fun r1 S2 h3 o4 => ?_)
  refine G_istore_n (q := 6) (ls' := [(2, .int r1), (0, .ref (ad 8 0)), (1, .int a1)]) cx dX8_goMinute_5 rfl rfl (Nat.le_of_ble_eq_true rfl) rfl ?_
  refine G_aload_n (q := 7) cx dX8_goMinute_6 rfl rfl ?_
  refine G_callV (q := 10) (d' := 2) (f := 8) (i := 0) (As := []) (rest := []) (stk := fun r5 => [.int r5]) cx dX8_goMinute_7 rfl cf_8 (Nat.le_of_ble_eq_true rfl) ml_RX8_307 rfl rfl (Nat.le_of_ble_eq_true rfl) (Nat.le_of_ble_eq_true rfl) (Nat.le_of_ble_eq_true rfl) (c_X8_base l hJ  _) (fun _ => rfl) (fun r5 S6 h7 o8 => ?_)
  refine G_aload_n (q := 11) cx dX8_goMinute_10 rfl rfl ?_
  refine G_geti (q := 14) cx dX8_goMinute_11 rfl cf_8 fl_RX8_19 (Nat.le_of_ble_eq_true rfl) rfl (Nat.le_of_ble_eq_true rfl) ?_
  refine G_icmp_le (q := 17) (t := 24) cx dX8_goMinute_14 rfl (by decide) (fun c9 => ?_) (fun c9 => ?_)
  · refine G_aload_n (q := 25) cx dX8_goMinute_24 rfl rfl ?_
    refine G_geti (q := 28) cx dX8_goMinute_25 rfl cf_8 fl_RX8_19 (Nat.le_of_ble_eq_true rfl) rfl (Nat.le_of_ble_eq_true rfl) ?_
    refine G_istore_n (q := 29) (ls' := [(3, .int (gI S6 8 0 3)), (2, .int r1), (0, .ref (ad 8 0)), (1, .int a1)]) cx dX8_goMinute_28 rfl rfl (Nat.le_of_ble_eq_true rfl) rfl ?_
    refine G_aload_n (q := 30) cx dX8_goMinute_29 rfl rfl ?_
    refine G_geti (q := 33) cx dX8_goMinute_30 rfl cf_8 fl_RX8_19 (Nat.le_of_ble_eq_true rfl) rfl (Nat.le_of_ble_eq_true rfl) ?_
    refine G_iload_n (q := 34) cx dX8_goMinute_33 rfl rfl ?_
    refine G_iadd (q := 35) cx dX8_goMinute_34 rfl ?_
    refine G_istore (q := 37) (ls' := [(4, .int ((gI S6 8 0 3) + r1)), (3, .int (gI S6 8 0 3)), (2, .int r1), (0, .ref (ad 8 0)), (1, .int a1)]) cx dX8_goMinute_35 rfl (Nat.le_of_ble_eq_true rfl) rfl ?_
    refine G_aload_n (q := 38) cx dX8_goMinute_37 rfl rfl ?_
    refine G_iload_n (q := 39) cx dX8_goMinute_38 rfl rfl ?_
    refine G_if_le (q := 42) (t := 52) cx dX8_goMinute_39 rfl (by decide) (fun c10 => ?_) (fun c10 => ?_)
    · refine G_iload (q := 54) cx dX8_goMinute_52 rfl rfl ?_
      refine G_if_ge (q := 57) (t := 61) cx dX8_goMinute_54 rfl (by decide) (fun c11 => ?_) (fun c11 => ?_)
      · refine G_iload (q := 63) cx dX8_goMinute_61 rfl rfl ?_
        refine G_puti (q := 66) cx dX8_goMinute_63 rfl cf_8 fl_RX8_19 (Nat.le_of_ble_eq_true rfl) rfl rfl rfl rfl rfl (Nat.le_of_ble_eq_true rfl) ?_
        refine G_aload_n (q := 67) cx dX8_goMinute_66 rfl rfl ?_
        refine G_dup (q := 68) cx dX8_goMinute_67 rfl rfl ?_
        refine G_geti (q := 71) cx dX8_goMinute_68 rfl cf_8 fl_RX8_13 (Nat.le_of_ble_eq_true rfl) rfl (Nat.le_of_ble_eq_true rfl) ?_
        refine G_iconst (q := 72) (v := (1 : Int32)) cx dX8_goMinute_71 rfl (by decide) ?_
        refine G_iadd (q := 73) cx dX8_goMinute_72 rfl ?_
        refine G_puti (q := 76) cx dX8_goMinute_73 rfl cf_8 fl_RX8_13 (Nat.le_of_ble_eq_true rfl) rfl rfl rfl rfl rfl (Nat.le_of_ble_eq_true rfl) ?_
        exact G_vret cx rfl dX8_goMinute_76 trivial
      refine G_iconst (q := 58) (v := (0 : Int32)) cx dX8_goMinute_57 rfl (by decide) ?_
      refine G_goto (t := 63) cx dX8_goMinute_58 (by decide) ?_
      refine G_puti (q := 66) cx dX8_goMinute_63 rfl cf_8 fl_RX8_19 (Nat.le_of_ble_eq_true rfl) rfl rfl rfl rfl rfl (Nat.le_of_ble_eq_true rfl) ?_
      refine G_aload_n (q := 67) cx dX8_goMinute_66 rfl rfl ?_
      refine G_dup (q := 68) cx dX8_goMinute_67 rfl rfl ?_
      refine G_geti (q := 71) cx dX8_goMinute_68 rfl cf_8 fl_RX8_13 (Nat.le_of_ble_eq_true rfl) rfl (Nat.le_of_ble_eq_true rfl) ?_
      refine G_iconst (q := 72) (v := (1 : Int32)) cx dX8_goMinute_71 rfl (by decide) ?_
      refine G_iadd (q := 73) cx dX8_goMinute_72 rfl ?_
      refine G_puti (q := 76) cx dX8_goMinute_73 rfl cf_8 fl_RX8_13 (Nat.le_of_ble_eq_true rfl) rfl rfl rfl rfl rfl (Nat.le_of_ble_eq_true rfl) ?_
      exact G_vret cx rfl dX8_goMinute_76 trivial
    refine G_iload (q := 44) cx dX8_goMinute_42 rfl rfl ?_
    refine G_iload_n (q := 45) cx dX8_goMinute_44 rfl rfl ?_
    refine G_icmp_le (q := 48) (t := 52) cx dX8_goMinute_45 rfl (by decide) (fun c12 => ?_) (fun c12 => ?_)
    · refine G_iload (q := 54) cx dX8_goMinute_52 rfl rfl ?_
      refine G_if_ge (q := 57) (t := 61) cx dX8_goMinute_54 rfl (by decide) (fun c13 => ?_) (fun c13 => ?_)
      · refine G_iload (q := 63) cx dX8_goMinute_61 rfl rfl ?_
        refine G_puti (q := 66) cx dX8_goMinute_63 rfl cf_8 fl_RX8_19 (Nat.le_of_ble_eq_true rfl) rfl rfl rfl rfl rfl (Nat.le_of_ble_eq_true rfl) ?_
        refine G_aload_n (q := 67) cx dX8_goMinute_66 rfl rfl ?_
        refine G_dup (q := 68) cx dX8_goMinute_67 rfl rfl ?_
        refine G_geti (q := 71) cx dX8_goMinute_68 rfl cf_8 fl_RX8_13 (Nat.le_of_ble_eq_true rfl) rfl (Nat.le_of_ble_eq_true rfl) ?_
        refine G_iconst (q := 72) (v := (1 : Int32)) cx dX8_goMinute_71 rfl (by decide) ?_
        refine G_iadd (q := 73) cx dX8_goMinute_72 rfl ?_
        refine G_puti (q := 76) cx dX8_goMinute_73 rfl cf_8 fl_RX8_13 (Nat.le_of_ble_eq_true rfl) rfl rfl rfl rfl rfl (Nat.le_of_ble_eq_true rfl) ?_
        exact G_vret cx rfl dX8_goMinute_76 trivial
      refine G_iconst (q := 58) (v := (0 : Int32)) cx dX8_goMinute_57 rfl (by decide) ?_
      refine G_goto (t := 63) cx dX8_goMinute_58 (by decide) ?_
      refine G_puti (q := 66) cx dX8_goMinute_63 rfl cf_8 fl_RX8_19 (Nat.le_of_ble_eq_true rfl) rfl rfl rfl rfl rfl (Nat.le_of_ble_eq_true rfl) ?_
      refine G_aload_n (q := 67) cx dX8_goMinute_66 rfl rfl ?_
      refine G_dup (q := 68) cx dX8_goMinute_67 rfl rfl ?_
      refine G_geti (q := 71) cx dX8_goMinute_68 rfl cf_8 fl_RX8_13 (Nat.le_of_ble_eq_true rfl) rfl (Nat.le_of_ble_eq_true rfl) ?_
      refine G_iconst (q := 72) (v := (1 : Int32)) cx dX8_goMinute_71 rfl (by decide) ?_
      refine G_iadd (q := 73) cx dX8_goMinute_72 rfl ?_
      refine G_puti (q := 76) cx dX8_goMinute_73 rfl cf_8 fl_RX8_13 (Nat.le_of_ble_eq_true rfl) rfl rfl rfl rfl rfl (Nat.le_of_ble_eq_true rfl) ?_
      exact G_vret cx rfl dX8_goMinute_76 trivial
    refine G_iload_n (q := 49) cx dX8_goMinute_48 rfl rfl ?_
    refine G_goto (t := 63) cx dX8_goMinute_49 (by decide) ?_
    refine G_puti (q := 66) cx dX8_goMinute_63 rfl cf_8 fl_RX8_19 (Nat.le_of_ble_eq_true rfl) rfl rfl rfl rfl rfl (Nat.le_of_ble_eq_true rfl) ?_
    refine G_aload_n (q := 67) cx dX8_goMinute_66 rfl rfl ?_
    refine G_dup (q := 68) cx dX8_goMinute_67 rfl rfl ?_
    refine G_geti (q := 71) cx dX8_goMinute_68 rfl cf_8 fl_RX8_13 (Nat.le_of_ble_eq_true rfl) rfl (Nat.le_of_ble_eq_true rfl) ?_
    refine G_iconst (q := 72) (v := (1 : Int32)) cx dX8_goMinute_71 rfl (by decide) ?_
    refine G_iadd (q := 73) cx dX8_goMinute_72 rfl ?_
    refine G_puti (q := 76) cx dX8_goMinute_73 rfl cf_8 fl_RX8_13 (Nat.le_of_ble_eq_true rfl) rfl rfl rfl rfl rfl (Nat.le_of_ble_eq_true rfl) ?_
    exact G_vret cx rfl dX8_goMinute_76 trivial
  refine G_aload_n (q := 18) cx dX8_goMinute_17 rfl rfl ?_
  refine G_callV (q := 21) (d' := 2) (f := 8) (i := 0) (As := []) (rest := []) (stk := fun r14 => [.int r14]) cx dX8_goMinute_18 rfl cf_8 (Nat.le_of_ble_eq_true rfl) ml_RX8_307 rfl rfl (Nat.le_of_ble_eq_true rfl) (Nat.le_of_ble_eq_true rfl) (Nat.le_of_ble_eq_true rfl) (c_X8_base l hJ  _) (fun _ => rfl) (fun r14 S15 h16 o17 => ?_)
  refine G_goto (t := 28) cx dX8_goMinute_21 (by decide) ?_
  refine G_istore_n (q := 29) (ls' := [(3, .int r14), (2, .int r1), (0, .ref (ad 8 0)), (1, .int a1)]) cx dX8_goMinute_28 rfl rfl (Nat.le_of_ble_eq_true rfl) rfl ?_
  refine G_aload_n (q := 30) cx dX8_goMinute_29 rfl rfl ?_
  refine G_geti (q := 33) cx dX8_goMinute_30 rfl cf_8 fl_RX8_19 (Nat.le_of_ble_eq_true rfl) rfl (Nat.le_of_ble_eq_true rfl) ?_
  refine G_iload_n (q := 34) cx dX8_goMinute_33 rfl rfl ?_
  refine G_iadd (q := 35) cx dX8_goMinute_34 rfl ?_
  refine G_istore (q := 37) (ls' := [(4, .int ((gI S15 8 0 3) + r1)), (3, .int r14), (2, .int r1), (0, .ref (ad 8 0)), (1, .int a1)]) cx dX8_goMinute_35 rfl (Nat.le_of_ble_eq_true rfl) rfl ?_
  refine G_aload_n (q := 38) cx dX8_goMinute_37 rfl rfl ?_
  refine G_iload_n (q := 39) cx dX8_goMinute_38 rfl rfl ?_
  refine G_if_le (q := 42) (t := 52) cx dX8_goMinute_39 rfl (by decide) (fun c18 => ?_) (fun c18 => ?_)
  · refine G_iload (q := 54) cx dX8_goMinute_52 rfl rfl ?_
    refine G_if_ge (q := 57) (t := 61) cx dX8_goMinute_54 rfl (by decide) (fun c19 => ?_) (fun c19 => ?_)
    · refine G_iload (q := 63) cx dX8_goMinute_61 rfl rfl ?_
      refine G_puti (q := 66) cx dX8_goMinute_63 rfl cf_8 fl_RX8_19 (Nat.le_of_ble_eq_true rfl) rfl rfl rfl rfl rfl (Nat.le_of_ble_eq_true rfl) ?_
      refine G_aload_n (q := 67) cx dX8_goMinute_66 rfl rfl ?_
      refine G_dup (q := 68) cx dX8_goMinute_67 rfl rfl ?_
      refine G_geti (q := 71) cx dX8_goMinute_68 rfl cf_8 fl_RX8_13 (Nat.le_of_ble_eq_true rfl) rfl (Nat.le_of_ble_eq_true rfl) ?_
      refine G_iconst (q := 72) (v := (1 : Int32)) cx dX8_goMinute_71 rfl (by decide) ?_
      refine G_iadd (q := 73) cx dX8_goMinute_72 rfl ?_
      refine G_puti (q := 76) cx dX8_goMinute_73 rfl cf_8 fl_RX8_13 (Nat.le_of_ble_eq_true rfl) rfl rfl rfl rfl rfl (Nat.le_of_ble_eq_true rfl) ?_
      exact G_vret cx rfl dX8_goMinute_76 trivial
    refine G_iconst (q := 58) (v := (0 : Int32)) cx dX8_goMinute_57 rfl (by decide) ?_
    refine G_goto (t := 63) cx dX8_goMinute_58 (by decide) ?_
    refine G_puti (q := 66) cx dX8_goMinute_63 rfl cf_8 fl_RX8_19 (Nat.le_of_ble_eq_true rfl) rfl rfl rfl rfl rfl (Nat.le_of_ble_eq_true rfl) ?_
    refine G_aload_n (q := 67) cx dX8_goMinute_66 rfl rfl ?_
    refine G_dup (q := 68) cx dX8_goMinute_67 rfl rfl ?_
    refine G_geti (q := 71) cx dX8_goMinute_68 rfl cf_8 fl_RX8_13 (Nat.le_of_ble_eq_true rfl) rfl (Nat.le_of_ble_eq_true rfl) ?_
    refine G_iconst (q := 72) (v := (1 : Int32)) cx dX8_goMinute_71 rfl (by decide) ?_
    refine G_iadd (q := 73) cx dX8_goMinute_72 rfl ?_
    refine G_puti (q := 76) cx dX8_goMinute_73 rfl cf_8 fl_RX8_13 (Nat.le_of_ble_eq_true rfl) rfl rfl rfl rfl rfl (Nat.le_of_ble_eq_true rfl) ?_
    exact G_vret cx rfl dX8_goMinute_76 trivial
  refine G_iload (q := 44) cx dX8_goMinute_42 rfl rfl ?_
  refine G_iload_n (q := 45) cx dX8_goMinute_44 rfl rfl ?_
  refine G_icmp_le (q := 48) (t := 52) cx dX8_goMinute_45 rfl (by decide) (fun c20 => ?_) (fun c20 => ?_)
  · refine G_iload (q := 54) cx dX8_goMinute_52 rfl rfl ?_
    refine G_if_ge (q := 57) (t := 61) cx dX8_goMinute_54 rfl (by decide) (fun c21 => ?_) (fun c21 => ?_)
    · refine G_iload (q := 63) cx dX8_goMinute_61 rfl rfl ?_
      refine G_puti (q := 66) cx dX8_goMinute_63 rfl cf_8 fl_RX8_19 (Nat.le_of_ble_eq_true rfl) rfl rfl rfl rfl rfl (Nat.le_of_ble_eq_true rfl) ?_
      refine G_aload_n (q := 67) cx dX8_goMinute_66 rfl rfl ?_
      refine G_dup (q := 68) cx dX8_goMinute_67 rfl rfl ?_
      refine G_geti (q := 71) cx dX8_goMinute_68 rfl cf_8 fl_RX8_13 (Nat.le_of_ble_eq_true rfl) rfl (Nat.le_of_ble_eq_true rfl) ?_
      refine G_iconst (q := 72) (v := (1 : Int32)) cx dX8_goMinute_71 rfl (by decide) ?_
      refine G_iadd (q := 73) cx dX8_goMinute_72 rfl ?_
      refine G_puti (q := 76) cx dX8_goMinute_73 rfl cf_8 fl_RX8_13 (Nat.le_of_ble_eq_true rfl) rfl rfl rfl rfl rfl (Nat.le_of_ble_eq_true rfl) ?_
      exact G_vret cx rfl dX8_goMinute_76 trivial
    refine G_iconst (q := 58) (v := (0 : Int32)) cx dX8_goMinute_57 rfl (by decide) ?_
    refine G_goto (t := 63) cx dX8_goMinute_58 (by decide) ?_
    refine G_puti (q := 66) cx dX8_goMinute_63 rfl cf_8 fl_RX8_19 (Nat.le_of_ble_eq_true rfl) rfl rfl rfl rfl rfl (Nat.le_of_ble_eq_true rfl) ?_
    refine G_aload_n (q := 67) cx dX8_goMinute_66 rfl rfl ?_
    refine G_dup (q := 68) cx dX8_goMinute_67 rfl rfl ?_
    refine G_geti (q := 71) cx dX8_goMinute_68 rfl cf_8 fl_RX8_13 (Nat.le_of_ble_eq_true rfl) rfl (Nat.le_of_ble_eq_true rfl) ?_
    refine G_iconst (q := 72) (v := (1 : Int32)) cx dX8_goMinute_71 rfl (by decide) ?_
    refine G_iadd (q := 73) cx dX8_goMinute_72 rfl ?_
    refine G_puti (q := 76) cx dX8_goMinute_73 rfl cf_8 fl_RX8_13 (Nat.le_of_ble_eq_true rfl) rfl rfl rfl rfl rfl (Nat.le_of_ble_eq_true rfl) ?_
    exact G_vret cx rfl dX8_goMinute_76 trivial
  refine G_iload_n (q := 49) cx dX8_goMinute_48 rfl rfl ?_
  refine G_goto (t := 63) cx dX8_goMinute_49 (by decide) ?_
  refine G_puti (q := 66) cx dX8_goMinute_63 rfl cf_8 fl_RX8_19 (Nat.le_of_ble_eq_true rfl) rfl rfl rfl rfl rfl (Nat.le_of_ble_eq_true rfl) ?_
  refine G_aload_n (q := 67) cx dX8_goMinute_66 rfl rfl ?_
  refine G_dup (q := 68) cx dX8_goMinute_67 rfl rfl ?_
  refine G_geti (q := 71) cx dX8_goMinute_68 rfl cf_8 fl_RX8_13 (Nat.le_of_ble_eq_true rfl) rfl (Nat.le_of_ble_eq_true rfl) ?_
  refine G_iconst (q := 72) (v := (1 : Int32)) cx dX8_goMinute_71 rfl (by decide) ?_
  refine G_iadd (q := 73) cx dX8_goMinute_72 rfl ?_
  refine G_puti (q := 76) cx dX8_goMinute_73 rfl cf_8 fl_RX8_13 (Nat.le_of_ble_eq_true rfl) rfl rfl rfl rfl rfl (Nat.le_of_ble_eq_true rfl) ?_
  exact G_vret cx rfl dX8_goMinute_76 trivial
def F_X8_falls (S : St) (a1 : Int32) (a2 : Int32) (a3 : Int32) : Option (Int32 × St) :=
  bnd (F_X8_apart S a1 a2) (fun r1 S2 =>
  some (r1 * ((5 : Int32) + a3), S2))
set_option maxRecDepth 10000 in
theorem c_X8_falls (l : Launch) {D : va_G} {cy : Nat → ClassId} {ad : Nat → Nat → Nat} (hJ : wJ ad nM) (S : St) (a1 : Int32) (a2 : Int32) (a3 : Int32) : CT l yX8_falls cX8_falls 4 (some .int) 1 D cy ad nM toI okT [.ref (ad 8 0), .int a1, .int a2, .int a3] S (F_X8_falls S a1 a2 a3) := by
  refine CT.of RX8 (by decide) rfl hJ (Nat.le_of_ble_eq_true rfl) rfl ?_
  intro p e s m below meth c cx
  unfold F_X8_falls
  refine G_aload_n (q := 1) cx dX8_falls_0 rfl rfl ?_
  refine G_iload_n (q := 2) cx dX8_falls_1 rfl rfl ?_
  refine G_iload_n (q := 3) cx dX8_falls_2 rfl rfl ?_
  refine G_callV (q := 6) (d' := 0) (f := 8) (i := 0) (As := [.int a1, .int a2]) (rest := []) (stk := fun r1 => [.int r1]) cx dX8_falls_3 rfl cf_8 (Nat.le_of_ble_eq_true rfl) ml_RX8_313 rfl rfl (Nat.le_of_ble_eq_true rfl) (Nat.le_of_ble_eq_true rfl) (Nat.le_of_ble_eq_true rfl) (c_X8_apart l hJ  _ a1 a2) (fun _ => rfl) (fun r1 S2 h3 o4 => ?_)
  refine G_iconst (q := 7) (v := (5 : Int32)) cx dX8_falls_6 rfl (by decide) ?_
  refine G_iload_n (q := 8) cx dX8_falls_7 rfl rfl ?_
  refine G_iadd (q := 9) cx dX8_falls_8 rfl ?_
  refine G_imul (q := 10) cx dX8_falls_9 rfl ?_
  exact G_iret cx rfl dX8_falls_10 trivial
def F_X8_goGlide (S : St) (a1 : Int32) (a2 : Int32) : Option (Int32 × St) :=
  bnd (F_X8_falls S (gI S 8 0 2) a1 a2) (fun r1 S2 =>
  if r1 ≤ (gI S 8 0 3) then (bnd (F_X8_falls S2 (gI S2 8 0 2) a1 a2) (fun r6 S7 =>
  bnd (F_X8_apart (sI S7 8 0 3 ((gI S2 8 0 3) - r6)) (gI (sI S7 8 0 3 ((gI S2 8 0 3) - r6)) 8 0 2) a1) (fun r10 S11 =>
  some ((1 : Int32), (sI (sI S11 8 0 1 ((gI (sI S7 8 0 3 ((gI S2 8 0 3) - r6)) 8 0 1) + (r10 * ((10 : Int32) - a2)))) 8 0 2 a1)))))
  else (some ((0 : Int32), S2)))
set_option maxRecDepth 10000 in
theorem c_X8_goGlide (l : Launch) {D : va_G} {cy : Nat → ClassId} {ad : Nat → Nat → Nat} (hJ : wJ ad nM) (S : St) (a1 : Int32) (a2 : Int32) : CT l yX8_goGlide cX8_goGlide 3 (some .boolean) 2 D cy ad nM toI okZ [.ref (ad 8 0), .int a1, .int a2] S (F_X8_goGlide S a1 a2) := by
  refine CT.of RX8 (by decide) rfl hJ (Nat.le_of_ble_eq_true rfl) rfl ?_
  intro p e s m below meth c cx
  unfold F_X8_goGlide
  refine G_aload_n (q := 1) cx dX8_goGlide_0 rfl rfl ?_
  refine G_geti (q := 4) cx dX8_goGlide_1 rfl cf_8 fl_RX8_19 (Nat.le_of_ble_eq_true rfl) rfl (Nat.le_of_ble_eq_true rfl) ?_
  refine G_aload_n (q := 5) cx dX8_goGlide_4 rfl rfl ?_
  refine G_aload_n (q := 6) cx dX8_goGlide_5 rfl rfl ?_
  refine G_geti (q := 9) cx dX8_goGlide_6 rfl cf_8 fl_RX8_16 (Nat.le_of_ble_eq_true rfl) rfl (Nat.le_of_ble_eq_true rfl) ?_
  refine G_iload_n (q := 10) cx dX8_goGlide_9 rfl rfl ?_
  refine G_iload_n (q := 11) cx dX8_goGlide_10 rfl rfl ?_
  refine G_callV (q := 14) (d' := 1) (f := 8) (i := 0) (As := [.int (gI S 8 0 2), .int a1, .int a2]) (rest := [.int (gI S 8 0 3)]) (stk := fun r1 => [.int r1, .int (gI S 8 0 3)]) cx dX8_goGlide_11 rfl cf_8 (Nat.le_of_ble_eq_true rfl) ml_RX8_316 rfl rfl (Nat.le_of_ble_eq_true rfl) (Nat.le_of_ble_eq_true rfl) (Nat.le_of_ble_eq_true rfl) (c_X8_falls l hJ  _ (gI S 8 0 2) a1 a2) (fun _ => rfl) (fun r1 S2 h3 o4 => ?_)
  refine G_icmp_ge (q := 17) (t := 19) cx dX8_goGlide_14 rfl (by decide) (fun c5 => ?_) (fun c5 => ?_)
  · refine G_aload_n (q := 20) cx dX8_goGlide_19 rfl rfl ?_
    refine G_dup (q := 21) cx dX8_goGlide_20 rfl rfl ?_
    refine G_geti (q := 24) cx dX8_goGlide_21 rfl cf_8 fl_RX8_19 (Nat.le_of_ble_eq_true rfl) rfl (Nat.le_of_ble_eq_true rfl) ?_
    refine G_aload_n (q := 25) cx dX8_goGlide_24 rfl rfl ?_
    refine G_aload_n (q := 26) cx dX8_goGlide_25 rfl rfl ?_
    refine G_geti (q := 29) cx dX8_goGlide_26 rfl cf_8 fl_RX8_16 (Nat.le_of_ble_eq_true rfl) rfl (Nat.le_of_ble_eq_true rfl) ?_
    refine G_iload_n (q := 30) cx dX8_goGlide_29 rfl rfl ?_
    refine G_iload_n (q := 31) cx dX8_goGlide_30 rfl rfl ?_
    refine G_callV (q := 34) (d' := 1) (f := 8) (i := 0) (As := [.int (gI S2 8 0 2), .int a1, .int a2]) (rest := [.int (gI S2 8 0 3), .ref (ad 8 0)]) (stk := fun r6 => [.int r6, .int (gI S2 8 0 3), .ref (ad 8 0)]) cx dX8_goGlide_31 rfl cf_8 (Nat.le_of_ble_eq_true rfl) ml_RX8_316 rfl rfl (Nat.le_of_ble_eq_true rfl) (Nat.le_of_ble_eq_true rfl) (Nat.le_of_ble_eq_true rfl) (c_X8_falls l hJ  _ (gI S2 8 0 2) a1 a2) (fun _ => rfl) (fun r6 S7 h8 o9 => ?_)
    refine G_isub (q := 35) cx dX8_goGlide_34 rfl ?_
    refine G_puti (q := 38) cx dX8_goGlide_35 rfl cf_8 fl_RX8_19 (Nat.le_of_ble_eq_true rfl) rfl rfl rfl rfl rfl (Nat.le_of_ble_eq_true rfl) ?_
    refine G_aload_n (q := 39) cx dX8_goGlide_38 rfl rfl ?_
    refine G_dup (q := 40) cx dX8_goGlide_39 rfl rfl ?_
    refine G_geti (q := 43) cx dX8_goGlide_40 rfl cf_8 fl_RX8_13 (Nat.le_of_ble_eq_true rfl) rfl (Nat.le_of_ble_eq_true rfl) ?_
    refine G_aload_n (q := 44) cx dX8_goGlide_43 rfl rfl ?_
    refine G_aload_n (q := 45) cx dX8_goGlide_44 rfl rfl ?_
    refine G_geti (q := 48) cx dX8_goGlide_45 rfl cf_8 fl_RX8_16 (Nat.le_of_ble_eq_true rfl) rfl (Nat.le_of_ble_eq_true rfl) ?_
    refine G_iload_n (q := 49) cx dX8_goGlide_48 rfl rfl ?_
    refine G_callV (q := 52) (d' := 0) (f := 8) (i := 0) (As := [.int (gI (sI S7 8 0 3 ((gI S2 8 0 3) - r6)) 8 0 2), .int a1]) (rest := [.int (gI (sI S7 8 0 3 ((gI S2 8 0 3) - r6)) 8 0 1), .ref (ad 8 0)]) (stk := fun r10 => [.int r10, .int (gI (sI S7 8 0 3 ((gI S2 8 0 3) - r6)) 8 0 1), .ref (ad 8 0)]) cx dX8_goGlide_49 rfl cf_8 (Nat.le_of_ble_eq_true rfl) ml_RX8_313 rfl rfl (Nat.le_of_ble_eq_true rfl) (Nat.le_of_ble_eq_true rfl) (Nat.le_of_ble_eq_true rfl) (c_X8_apart l hJ  _ (gI (sI S7 8 0 3 ((gI S2 8 0 3) - r6)) 8 0 2) a1) (fun _ => rfl) (fun r10 S11 h12 o13 => ?_)
    refine G_bipush (q := 54) (v := (10 : Int32)) cx dX8_goGlide_52 rfl (by decide) ?_
    refine G_iload_n (q := 55) cx dX8_goGlide_54 rfl rfl ?_
    refine G_isub (q := 56) cx dX8_goGlide_55 rfl ?_
    refine G_imul (q := 57) cx dX8_goGlide_56 rfl ?_
    refine G_iadd (q := 58) cx dX8_goGlide_57 rfl ?_
    refine G_puti (q := 61) cx dX8_goGlide_58 rfl cf_8 fl_RX8_13 (Nat.le_of_ble_eq_true rfl) rfl rfl rfl rfl rfl (Nat.le_of_ble_eq_true rfl) ?_
    refine G_aload_n (q := 62) cx dX8_goGlide_61 rfl rfl ?_
    refine G_iload_n (q := 63) cx dX8_goGlide_62 rfl rfl ?_
    refine G_puti (q := 66) cx dX8_goGlide_63 rfl cf_8 fl_RX8_16 (Nat.le_of_ble_eq_true rfl) rfl rfl rfl rfl rfl (Nat.le_of_ble_eq_true rfl) ?_
    refine G_iconst (q := 67) (v := (1 : Int32)) cx dX8_goGlide_66 rfl (by decide) ?_
    exact G_zret (ty := .boolean) cx rfl dX8_goGlide_67 rfl rfl
  · refine G_iconst (q := 18) (v := (0 : Int32)) cx dX8_goGlide_17 rfl (by decide) ?_
    exact G_zret (ty := .boolean) cx rfl dX8_goGlide_18 rfl rfl
def F_X8_enter (S : St) (a1 : Int32) : Option (Int32 × St) :=
  bnd (F_X8_isLift S a1) (fun r1 S2 =>
  if r1 = 0 then (some ((-1001 : Int32), S2))
  else (if 0 ≤ a1 ∧ a1.toNatClampNeg < 6 then (if (gI S2 24 0 a1.toNatClampNeg) = (gI S2 8 0 2) then (bnd (F_X8_climb (sI S2 8 0 4 a1) a1) (fun r9 S10 =>
  some (r9, S10)))
  else (some ((-1002 : Int32), S2)))
  else none))
set_option maxRecDepth 10000 in
theorem c_X8_enter (l : Launch) {D : va_G} {cy : Nat → ClassId} {ad : Nat → Nat → Nat} (hJ : wJ ad nM) (S : St) (a1 : Int32) : CT l yX8_enter cX8_enter 2 (some .int) 4 D cy ad nM toI okT [.ref (ad 8 0), .int a1] S (F_X8_enter S a1) := by
  refine CT.of RX8 (by decide) rfl hJ (Nat.le_of_ble_eq_true rfl) rfl ?_
  intro p e s m below meth c cx
  unfold F_X8_enter
  refine G_aload_n (q := 1) cx dX8_enter_0 rfl rfl ?_
  refine G_iload_n (q := 2) cx dX8_enter_1 rfl rfl ?_
  refine G_callV (q := 5) (d' := 1) (f := 8) (i := 0) (As := [.int a1]) (rest := []) (stk := fun r1 => [.int r1]) cx dX8_enter_2 rfl cf_8 (Nat.le_of_ble_eq_true rfl) ml_RX8_235 rfl rfl (Nat.le_of_ble_eq_true rfl) (Nat.le_of_ble_eq_true rfl) (Nat.le_of_ble_eq_true rfl) (c_X8_isLift l hJ  _ a1) (fun _ => rfl) (fun r1 S2 h3 o4 => ?_)
  refine G_if_ne (q := 8) (t := 12) cx dX8_enter_5 rfl (by decide) (fun c5 => ?_) (fun c5 => ?_)
  · refine G_aload_n (q := 13) cx dX8_enter_12 rfl rfl ?_
    refine G_getr (q := 16) (g := 24) (i' := 0) cx dX8_enter_13 rfl cf_8 fl_RX8_35 (Nat.le_of_ble_eq_true rfl) rfl rfl (Nat.le_of_ble_eq_true rfl) ?_
    refine G_iload_n (q := 17) cx dX8_enter_16 rfl rfl ?_
    refine G_iald (q := 18) cx dX8_enter_17 rfl (by decide) rfl rfl (Nat.le_of_ble_eq_true rfl) (fun g6 g7 => ?_)
    refine G_aload_n (q := 19) cx dX8_enter_18 rfl rfl ?_
    refine G_geti (q := 22) cx dX8_enter_19 rfl cf_8 fl_RX8_16 (Nat.le_of_ble_eq_true rfl) rfl (Nat.le_of_ble_eq_true rfl) ?_
    refine G_icmp_eq (q := 25) (t := 29) cx dX8_enter_22 rfl (by decide) (fun c8 => ?_) (fun c8 => ?_)
    · refine G_aload_n (q := 30) cx dX8_enter_29 rfl rfl ?_
      refine G_iload_n (q := 31) cx dX8_enter_30 rfl rfl ?_
      refine G_puti (q := 34) cx dX8_enter_31 rfl cf_8 fl_RX8_22 (Nat.le_of_ble_eq_true rfl) rfl rfl rfl rfl rfl (Nat.le_of_ble_eq_true rfl) ?_
      refine G_aload_n (q := 35) cx dX8_enter_34 rfl rfl ?_
      refine G_iload_n (q := 36) cx dX8_enter_35 rfl rfl ?_
      refine G_callV (q := 39) (d' := 3) (f := 8) (i := 0) (As := [.int a1]) (rest := []) (stk := fun r9 => [.int r9]) cx dX8_enter_36 rfl cf_8 (Nat.le_of_ble_eq_true rfl) ml_RX8_304 rfl rfl (Nat.le_of_ble_eq_true rfl) (Nat.le_of_ble_eq_true rfl) (Nat.le_of_ble_eq_true rfl) (c_X8_climb l hJ  _ a1) (fun _ => rfl) (fun r9 S10 h11 o12 => ?_)
      exact G_iret cx rfl dX8_enter_39 trivial
    · refine G_sipush (q := 28) (v := (-1002 : Int32)) cx dX8_enter_25 rfl (by decide) ?_
      exact G_iret cx rfl dX8_enter_28 trivial
  · refine G_sipush (q := 11) (v := (-1001 : Int32)) cx dX8_enter_8 rfl (by decide) ?_
    exact G_iret cx rfl dX8_enter_11 trivial
def L_X8_turn_35 (a1 : Int32) (K_8 : Int32 → St → Option (Int32 × St)) : Nat → Int32 → St → Option (Int32 × St)
  | 0, _, _ => none
  | n + 1, x2_8, S_8 =>
    if a1 ≤ x2_8 then (K_8 x2_8 S_8)
    else (bnd (F_X8_goMinute S_8 (gI S_8 8 0 4)) (fun r10 S11 =>
    L_X8_turn_35 a1 K_8 n (x2_8 + 1) S11))
def F_X8_turn (S : St) (a1 : Int32) : Option (Int32 × St) :=
  bnd (F_X8_isTime S a1) (fun r1 S2 =>
  if r1 = 0 then (some ((-2 : Int32), S2))
  else (if (gI S2 8 0 4) < 0 then (some ((-3 : Int32), S2))
  else (if ((gI S2 8 0 1) + a1) ≤ (9999 : Int32) then (L_X8_turn_35 a1 
  (fun y2_8 T_8 => some (gI T_8 8 0 3, T_8)) 1000 (0 : Int32) S2)
  else (some ((-3 : Int32), S2)))))
set_option maxRecDepth 10000 in
theorem c_X8_turn (l : Launch) {D : va_G} {cy : Nat → ClassId} {ad : Nat → Nat → Nat} (hJ : wJ ad nM) (S : St) (a1 : Int32) : CT l yX8_turn cX8_turn 3 (some .int) 5 D cy ad nM toI okT [.ref (ad 8 0), .int a1] S (F_X8_turn S a1) := by
  refine CT.of RX8 (by decide) rfl hJ (Nat.le_of_ble_eq_true rfl) rfl ?_
  intro p e s m below meth c cx
  unfold F_X8_turn
  refine G_aload_n (q := 1) cx dX8_turn_0 rfl rfl ?_
  refine G_iload_n (q := 2) cx dX8_turn_1 rfl rfl ?_
  refine G_callV (q := 5) (d' := 1) (f := 8) (i := 0) (As := [.int a1]) (rest := []) (stk := fun r1 => [.int r1]) cx dX8_turn_2 rfl cf_8 (Nat.le_of_ble_eq_true rfl) ml_RX8_320 rfl rfl (Nat.le_of_ble_eq_true rfl) (Nat.le_of_ble_eq_true rfl) (Nat.le_of_ble_eq_true rfl) (c_X8_isTime l hJ  _ a1) (fun _ => rfl) (fun r1 S2 h3 o4 => ?_)
  refine G_if_ne (q := 8) (t := 11) cx dX8_turn_5 rfl (by decide) (fun c5 => ?_) (fun c5 => ?_)
  · refine G_aload_n (q := 12) cx dX8_turn_11 rfl rfl ?_
    refine G_geti (q := 15) cx dX8_turn_12 rfl cf_8 fl_RX8_22 (Nat.le_of_ble_eq_true rfl) rfl (Nat.le_of_ble_eq_true rfl) ?_
    refine G_if_lt (q := 18) (t := 30) cx dX8_turn_15 rfl (by decide) (fun c6 => ?_) (fun c6 => ?_)
    · refine G_bipush (q := 32) (v := (-3 : Int32)) cx dX8_turn_30 rfl (by decide) ?_
      exact G_iret cx rfl dX8_turn_32 trivial
    refine G_aload_n (q := 19) cx dX8_turn_18 rfl rfl ?_
    refine G_geti (q := 22) cx dX8_turn_19 rfl cf_8 fl_RX8_13 (Nat.le_of_ble_eq_true rfl) rfl (Nat.le_of_ble_eq_true rfl) ?_
    refine G_iload_n (q := 23) cx dX8_turn_22 rfl rfl ?_
    refine G_iadd (q := 24) cx dX8_turn_23 rfl ?_
    refine G_sipush (q := 27) (v := (9999 : Int32)) cx dX8_turn_24 rfl (by decide) ?_
    refine G_icmp_le (q := 30) (t := 33) cx dX8_turn_27 rfl (by decide) (fun c7 => ?_) (fun c7 => ?_)
    · refine G_iconst (q := 34) (v := (0 : Int32)) cx dX8_turn_33 rfl (by decide) ?_
      refine G_istore_n (q := 35) (ls' := [(2, .int (0 : Int32)), (0, .ref (ad 8 0)), (1, .int a1)]) cx dX8_turn_34 rfl rfl (Nat.le_of_ble_eq_true rfl) rfl ?_
      have lp_8 : ∀ (K_8 : Int32 → St → Option (Int32 × St)) (hK_8 : ∀ (y2_8 : Int32) (T_8 : St), TG p l e 5 s m ([.ref (ad 8 0), .int a1] : List Value).toArray below meth c D cy ad nM toI okT T_8 54 [(2, .int y2_8), (0, .ref (ad 8 0)), (1, .int a1)] [] (K_8 y2_8 T_8)), ∀ (n_8 : Nat) (x2_8 : Int32) (S_8 : St), TG p l e 5 s m ([.ref (ad 8 0), .int a1] : List Value).toArray below meth c D cy ad nM toI okT S_8 35 [(2, .int x2_8), (0, .ref (ad 8 0)), (1, .int a1)] [] (L_X8_turn_35 a1 K_8 n_8 x2_8 S_8) := by
        intro K_8 hK_8 n_8
        induction n_8 with
        | zero => intros; exact G_none
        | succ n_8 ih_8 =>
          intro x2_8 S_8
          rw [L_X8_turn_35.eq_2]
          refine G_iload_n (q := 36) cx dX8_turn_35 rfl rfl ?_
          refine G_iload_n (q := 37) cx dX8_turn_36 rfl rfl ?_
          refine G_icmp_ge (q := 40) (t := 54) cx dX8_turn_37 rfl (by decide) (fun c9 => ?_) (fun c9 => ?_)
          · exact G_loc [0, 1, 2] rfl (hK_8 x2_8 S_8)
          refine G_aload_n (q := 41) cx dX8_turn_40 rfl rfl ?_
          refine G_aload_n (q := 42) cx dX8_turn_41 rfl rfl ?_
          refine G_geti (q := 45) cx dX8_turn_42 rfl cf_8 fl_RX8_22 (Nat.le_of_ble_eq_true rfl) rfl (Nat.le_of_ble_eq_true rfl) ?_
          refine G_callV (q := 48) (d' := 4) (f := 8) (i := 0) (As := [.int (gI S_8 8 0 4)]) (rest := []) (stk := fun _ => []) cx dX8_turn_45 rfl cf_8 (Nat.le_of_ble_eq_true rfl) ml_RX8_323 rfl rfl (Nat.le_of_ble_eq_true rfl) (Nat.le_of_ble_eq_true rfl) (Nat.le_of_ble_eq_true rfl) (c_X8_goMinute l hJ  _ (gI S_8 8 0 4)) (fun _ => rfl) (fun r10 S11 h12 o13 => ?_)
          refine G_iinc (q := 51) (j := 0) (v := x2_8 + 1) (ls' := [(2, .int (x2_8 + 1)), (0, .ref (ad 8 0)), (1, .int a1)]) cx dX8_turn_48 rfl rfl rfl (Nat.le_of_ble_eq_true rfl) rfl ?_
          refine G_goto (t := 35) cx dX8_turn_51 (by decide) ?_
          exact G_loc [0, 1, 2] rfl (ih_8 (x2_8 + 1) S11)
      refine G_loc [0, 1, 2] rfl (lp_8 _ (fun y2_8 T_8 => ?_) 1000 (0 : Int32) S2)
      refine G_aload_n (q := 55) cx dX8_turn_54 rfl rfl ?_
      refine G_geti (q := 58) cx dX8_turn_55 rfl cf_8 fl_RX8_19 (Nat.le_of_ble_eq_true rfl) rfl (Nat.le_of_ble_eq_true rfl) ?_
      exact G_iret cx rfl dX8_turn_58 trivial
    · refine G_bipush (q := 32) (v := (-3 : Int32)) cx dX8_turn_30 rfl (by decide) ?_
      exact G_iret cx rfl dX8_turn_32 trivial
  · refine G_bipush (q := 10) (v := (-2 : Int32)) cx dX8_turn_8 rfl (by decide) ?_
    exact G_iret cx rfl dX8_turn_10 trivial
