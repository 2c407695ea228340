def F_X6_cut (S : St) (i0 : Nat) (a1 : Int64) : Option (Int64 × St) :=
  if (gI S 6 i0 1) = 0 then (some (a1.toInt32.toInt8.toInt32.toInt64, S))
  else (if (gI S 6 i0 1) = 1 then (some (a1.toInt32.toInt16.toInt32.toInt64, S))
  else (if (gI S 6 i0 1) = 2 then (some (a1.toInt32.toInt64, S))
  else (if (gI S 6 i0 1) = 4 then (if (lg_cmp a1 (0 : Int64)) = 0 then (some ((0 : Int64), S))
  else (some ((1 : Int64), S)))
  else (some (a1, S)))))
set_option maxRecDepth 10000 in
theorem c_X6_cut (l : Launch) {D : va_G} {cy : Nat → ClassId} {ad : Nat → Nat → Nat} {k : Nat} (hJ : wJ ad (nX k)) (S : St) (i0 : Nat) (a1 : Int64) (h_i0 : i0 < 6) : CT l yX6_cut cX6_cut 3 (some .long) 0 D cy ad (nX k) toJ okT [.ref (ad 6 i0), .long a1] S (F_X6_cut S i0 a1) := by
  refine CT.of RX6 (by decide) rfl hJ (Nat.le_of_ble_eq_true rfl) rfl ?_
  intro p e s m below meth c cx
  unfold F_X6_cut
  refine G_aload_n (q := 1) cx dX6_cut_0 rfl rfl ?_
  refine G_geti (q := 4) cx dX6_cut_1 rfl cf_6 fl_RX6_15 (Nat.le_of_ble_eq_true rfl) rfl h_i0 ?_
  refine G_case (fun w1 => ?_) (fun w1 => ?_)
  · refine G_tswIn (t := 40) (off := 36) cx dX6_cut_4 w1 (by decide) (by decide) (by decide) (by decide) ?_
    refine G_lload_n (q := 41) cx dX6_cut_40 rfl rfl ?_
    refine G_l2i (q := 42) cx dX6_cut_41 rfl ?_
    refine G_i2b (q := 43) cx dX6_cut_42 rfl ?_
    refine G_i2l (q := 44) cx dX6_cut_43 rfl ?_
    exact G_lret cx rfl dX6_cut_44 trivial
  refine G_case (fun w2 => ?_) (fun w2 => ?_)
  · refine G_tswIn (t := 45) (off := 41) cx dX6_cut_4 w2 (by decide) (by decide) (by decide) (by decide) ?_
    refine G_lload_n (q := 46) cx dX6_cut_45 rfl rfl ?_
    refine G_l2i (q := 47) cx dX6_cut_46 rfl ?_
    refine G_i2s (q := 48) cx dX6_cut_47 rfl ?_
    refine G_i2l (q := 49) cx dX6_cut_48 rfl ?_
    exact G_lret cx rfl dX6_cut_49 trivial
  refine G_case (fun w3 => ?_) (fun w3 => ?_)
  · refine G_tswIn (t := 50) (off := 46) cx dX6_cut_4 w3 (by decide) (by decide) (by decide) (by decide) ?_
    refine G_lload_n (q := 51) cx dX6_cut_50 rfl rfl ?_
    refine G_l2i (q := 52) cx dX6_cut_51 rfl ?_
    refine G_i2l (q := 53) cx dX6_cut_52 rfl ?_
    exact G_lret cx rfl dX6_cut_53 trivial
  refine G_case (fun w4 => ?_) (fun w4 => ?_)
  · refine G_tswIn (t := 54) (off := 50) cx dX6_cut_4 w4 (by decide) (by decide) (by decide) (by decide) ?_
    refine G_lload_n (q := 55) cx dX6_cut_54 rfl rfl ?_
    refine G_lconst (q := 56) (v := (0 : Int64)) cx dX6_cut_55 rfl (by decide) ?_
    refine G_lcmp (q := 57) cx dX6_cut_56 rfl ?_
    refine G_if_eq (q := 60) (t := 64) cx dX6_cut_57 rfl (by decide) (fun c5 => ?_) (fun c5 => ?_)
    · refine G_lconst (q := 65) (v := (0 : Int64)) cx dX6_cut_64 rfl (by decide) ?_
      exact G_lret cx rfl dX6_cut_65 trivial
    · refine G_lconst (q := 61) (v := (1 : Int64)) cx dX6_cut_60 rfl (by decide) ?_
      refine G_goto (t := 65) cx dX6_cut_61 (by decide) ?_
      exact G_lret cx rfl dX6_cut_65 trivial
  have hz4_0 := lv_neT w1 (show (0 : Int32).toInt = 0 by decide)
  have hz4_1 := lv_neT w2 (show (1 : Int32).toInt = 1 by decide)
  have hz4_2 := lv_neT w3 (show (2 : Int32).toInt = 2 by decide)
  have hz4_3 := lv_neT w4 (show (4 : Int32).toInt = 4 by decide)
  refine G_tswDef (t := 66) cx dX6_cut_4 (fun u1 u2 => by rcases (show (gI S 6 i0 1).toInt = 3 by omega) with u <;> (rw [u]; decide)) (by decide) ?_
  refine G_lload_n (q := 67) cx dX6_cut_66 rfl rfl ?_
  exact G_lret cx rfl dX6_cut_67 trivial
def F_X7_isWithin (S : St) (a0 : Int32) (a1 : Int32) (a2 : Int32) : Option (Int32 × St) :=
  if a0 < a1 then (some ((0 : Int32), S))
  else (if a2 < a0 then (some ((0 : Int32), S))
  else (some ((1 : Int32), S)))
set_option maxRecDepth 10000 in
theorem c_X7_isWithin (l : Launch) {D : va_G} {cy : Nat → ClassId} {ad : Nat → Nat → Nat} {k : Nat} (hJ : wJ ad (nX k)) (S : St) (a0 : Int32) (a1 : Int32) (a2 : Int32) : CT l yX7_isWithin cX7_isWithin 3 (some .boolean) 0 D cy ad (nX k) toI okZ [.int a0, .int a1, .int a2] S (F_X7_isWithin S a0 a1 a2) := by
  refine CT.of RX7 (by decide) rfl hJ (Nat.le_of_ble_eq_true rfl) rfl ?_
  intro p e s m below meth c cx
  unfold F_X7_isWithin
  refine G_iload_n (q := 1) cx dX7_isWithin_0 rfl rfl ?_
  refine G_iload_n (q := 2) cx dX7_isWithin_1 rfl rfl ?_
  refine G_icmp_lt (q := 5) (t := 14) cx dX7_isWithin_2 rfl (by decide) (fun c1 => ?_) (fun c1 => ?_)
  · refine G_iconst (q := 15) (v := (0 : Int32)) cx dX7_isWithin_14 rfl (by decide) ?_
    exact G_zret (ty := .boolean) cx rfl dX7_isWithin_15 rfl rfl
  refine G_iload_n (q := 6) cx dX7_isWithin_5 rfl rfl ?_
  refine G_iload_n (q := 7) cx dX7_isWithin_6 rfl rfl ?_
  refine G_icmp_gt (q := 10) (t := 14) cx dX7_isWithin_7 rfl (by decide) (fun c2 => ?_) (fun c2 => ?_)
  · refine G_iconst (q := 15) (v := (0 : Int32)) cx dX7_isWithin_14 rfl (by decide) ?_
    exact G_zret (ty := .boolean) cx rfl dX7_isWithin_15 rfl rfl
  · refine G_iconst (q := 11) (v := (1 : Int32)) cx dX7_isWithin_10 rfl (by decide) ?_
    refine G_goto (t := 15) cx dX7_isWithin_11 (by decide) ?_
    exact G_zret (ty := .boolean) cx rfl dX7_isWithin_15 rfl rfl
def F_X7_isKind (S : St) (a0 : Int32) : Option (Int32 × St) :=
  bnd (F_X7_isWithin S a0 (0 : Int32) (6 : Int32)) (fun r1 S2 =>
  some (r1, S2))
set_option maxRecDepth 10000 in
theorem c_X7_isKind (l : Launch) {D : va_G} {cy : Nat → ClassId} {ad : Nat → Nat → Nat} {k : Nat} (hJ : wJ ad (nX k)) (S : St) (a0 : Int32) : CT l yX7_isKind cX7_isKind 1 (some .boolean) 1 D cy ad (nX k) toI okZ [.int a0] S (F_X7_isKind S a0) := by
  refine CT.of RX7 (by decide) rfl hJ (Nat.le_of_ble_eq_true rfl) rfl ?_
  intro p e s m below meth c cx
  unfold F_X7_isKind
  refine G_iload_n (q := 1) cx dX7_isKind_0 rfl rfl ?_
  refine G_iconst (q := 2) (v := (0 : Int32)) cx dX7_isKind_1 rfl (by decide) ?_
  refine G_bipush (q := 4) (v := (6 : Int32)) cx dX7_isKind_2 rfl (by decide) ?_
  refine G_callS (q := 7) (d' := 0) (As := [.int a0, .int (0 : Int32), .int (6 : Int32)]) (rest := []) (stk := fun r1 => [.int r1]) cx dX7_isKind_4 rfl ml_RX7_74 rfl rfl (Nat.le_of_ble_eq_true rfl) (Nat.le_of_ble_eq_true rfl) (Nat.le_of_ble_eq_true rfl) (c_X7_isWithin l hJ _ a0 (0 : Int32) (6 : Int32)) (fun _ => rfl) (fun r1 S2 h3 o4 => ?_)
  exact G_zret (ty := .boolean) cx rfl dX7_isKind_7 o4 o4
def F_X7_isMile (S : St) (a0 : Int32) : Option (Int32 × St) :=
  bnd (F_X7_isWithin S a0 (0 : Int32) (99 : Int32)) (fun r1 S2 =>
  some (r1, S2))
set_option maxRecDepth 10000 in
theorem c_X7_isMile (l : Launch) {D : va_G} {cy : Nat → ClassId} {ad : Nat → Nat → Nat} {k : Nat} (hJ : wJ ad (nX k)) (S : St) (a0 : Int32) : CT l yX7_isMile cX7_isMile 1 (some .boolean) 1 D cy ad (nX k) toI okZ [.int a0] S (F_X7_isMile S a0) := by
  refine CT.of RX7 (by decide) rfl hJ (Nat.le_of_ble_eq_true rfl) rfl ?_
  intro p e s m below meth c cx
  unfold F_X7_isMile
  refine G_iload_n (q := 1) cx dX7_isMile_0 rfl rfl ?_
  refine G_iconst (q := 2) (v := (0 : Int32)) cx dX7_isMile_1 rfl (by decide) ?_
  refine G_bipush (q := 4) (v := (99 : Int32)) cx dX7_isMile_2 rfl (by decide) ?_
  refine G_callS (q := 7) (d' := 0) (As := [.int a0, .int (0 : Int32), .int (99 : Int32)]) (rest := []) (stk := fun r1 => [.int r1]) cx dX7_isMile_4 rfl ml_RX7_74 rfl rfl (Nat.le_of_ble_eq_true rfl) (Nat.le_of_ble_eq_true rfl) (Nat.le_of_ble_eq_true rfl) (c_X7_isWithin l hJ _ a0 (0 : Int32) (99 : Int32)) (fun _ => rfl) (fun r1 S2 h3 o4 => ?_)
  exact G_zret (ty := .boolean) cx rfl dX7_isMile_7 o4 o4
def F_X7_lift (S : St) (a1 : Int32) (a2 : Int32) (a3 : Int32) (a4 : Int32) : Option (Int32 × St) :=
  bnd (F_X7_isKind S a1) (fun r1 S2 =>
  if r1 = 0 then (some ((-1 : Int32), S2))
  else (bnd (F_X7_isWithin S2 a2 (0 : Int32) (9 : Int32)) (fun r6 S7 =>
  if r6 = 0 then (some ((-2 : Int32), S7))
  else (bnd (F_X7_isMile S7 a3) (fun r11 S12 =>
  if r11 = 0 then (some ((-2 : Int32), S12))
  else (bnd (F_X7_isWithin S12 a4 (0 : Int32) (20 : Int32)) (fun r16 S17 =>
  if r16 = 0 then (some ((-2 : Int32), S17))
  else (if (gI S17 5 0 5) < (6 : Int32) then (if 0 ≤ (gI S17 5 0 5) ∧ (gI S17 5 0 5).toNatClampNeg < 6 then (bnd (F_X3_begin S17 (6 * 0 + (gI S17 5 0 5).toNatClampNeg) a1 a2 a3 a4) (fun r24 S25 =>
  some ((gI (sI S25 5 0 5 ((gI S25 5 0 5) + (1 : Int32))) 5 0 5) - (1 : Int32), (sI S25 5 0 5 ((gI S25 5 0 5) + (1 : Int32))))))
  else none)
  else (some ((-4 : Int32), S17))))))))))
set_option maxRecDepth 10000 in
theorem c_X7_lift (l : Launch) {D : va_G} {cy : Nat → ClassId} {ad : Nat → Nat → Nat} {k : Nat} (hJ : wJ ad (nX k)) (S : St) (a1 : Int32) (a2 : Int32) (a3 : Int32) (a4 : Int32) : CT l yX7_lift cX7_lift 5 (some .int) 2 D cy ad (nX k) toI okT [.ref (ad 7 0), .int a1, .int a2, .int a3, .int a4] S (F_X7_lift S a1 a2 a3 a4) := by
  refine CT.of RX7 (by decide) rfl hJ (Nat.le_of_ble_eq_true rfl) rfl ?_
  intro p e s m below meth c cx
  unfold F_X7_lift
  refine G_iload_n (q := 1) cx dX7_lift_0 rfl rfl ?_
  refine G_callS (q := 4) (d' := 1) (As := [.int a1]) (rest := []) (stk := fun r1 => [.int r1]) cx dX7_lift_1 rfl ml_RX7_70 rfl rfl (Nat.le_of_ble_eq_true rfl) (Nat.le_of_ble_eq_true rfl) (Nat.le_of_ble_eq_true rfl) (c_X7_isKind l hJ _ a1) (fun _ => rfl) (fun r1 S2 h3 o4 => ?_)
  refine G_if_ne (q := 7) (t := 9) cx dX7_lift_4 rfl (by decide) (fun c5 => ?_) (fun c5 => ?_)
  · refine G_iload_n (q := 10) cx dX7_lift_9 rfl rfl ?_
    refine G_iconst (q := 11) (v := (0 : Int32)) cx dX7_lift_10 rfl (by decide) ?_
    refine G_bipush (q := 13) (v := (9 : Int32)) cx dX7_lift_11 rfl (by decide) ?_
    refine G_callS (q := 16) (d' := 0) (As := [.int a2, .int (0 : Int32), .int (9 : Int32)]) (rest := []) (stk := fun r6 => [.int r6]) cx dX7_lift_13 rfl ml_RX7_74 rfl rfl (Nat.le_of_ble_eq_true rfl) (Nat.le_of_ble_eq_true rfl) (Nat.le_of_ble_eq_true rfl) (c_X7_isWithin l hJ _ a2 (0 : Int32) (9 : Int32)) (fun _ => rfl) (fun r6 S7 h8 o9 => ?_)
    refine G_if_eq (q := 19) (t := 37) cx dX7_lift_16 rfl (by decide) (fun c10 => ?_) (fun c10 => ?_)
    · refine G_bipush (q := 39) (v := (-2 : Int32)) cx dX7_lift_37 rfl (by decide) ?_
      exact G_iret cx rfl dX7_lift_39 trivial
    refine G_iload_n (q := 20) cx dX7_lift_19 rfl rfl ?_
    refine G_callS (q := 23) (d' := 1) (As := [.int a3]) (rest := []) (stk := fun r11 => [.int r11]) cx dX7_lift_20 rfl ml_RX7_78 rfl rfl (Nat.le_of_ble_eq_true rfl) (Nat.le_of_ble_eq_true rfl) (Nat.le_of_ble_eq_true rfl) (c_X7_isMile l hJ _ a3) (fun _ => rfl) (fun r11 S12 h13 o14 => ?_)
    refine G_if_eq (q := 26) (t := 37) cx dX7_lift_23 rfl (by decide) (fun c15 => ?_) (fun c15 => ?_)
    · refine G_bipush (q := 39) (v := (-2 : Int32)) cx dX7_lift_37 rfl (by decide) ?_
      exact G_iret cx rfl dX7_lift_39 trivial
    refine G_iload (q := 28) cx dX7_lift_26 rfl rfl ?_
    refine G_iconst (q := 29) (v := (0 : Int32)) cx dX7_lift_28 rfl (by decide) ?_
    refine G_bipush (q := 31) (v := (20 : Int32)) cx dX7_lift_29 rfl (by decide) ?_
    refine G_callS (q := 34) (d' := 0) (As := [.int a4, .int (0 : Int32), .int (20 : Int32)]) (rest := []) (stk := fun r16 => [.int r16]) cx dX7_lift_31 rfl ml_RX7_74 rfl rfl (Nat.le_of_ble_eq_true rfl) (Nat.le_of_ble_eq_true rfl) (Nat.le_of_ble_eq_true rfl) (c_X7_isWithin l hJ _ a4 (0 : Int32) (20 : Int32)) (fun _ => rfl) (fun r16 S17 h18 o19 => ?_)
    refine G_if_ne (q := 37) (t := 40) cx dX7_lift_34 rfl (by decide) (fun c20 => ?_) (fun c20 => ?_)
    · refine G_aload_n (q := 41) cx dX7_lift_40 rfl rfl ?_
      refine G_getr (q := 44) (g := 5) (i' := 0) cx dX7_lift_41 rfl cf_7 fl_RX7_23 (Nat.le_of_ble_eq_true rfl) rfl rfl (Nat.le_of_ble_eq_true rfl) ?_
      refine G_geti (q := 47) cx dX7_lift_44 rfl cf_5 fl_RX7_81 (Nat.le_of_ble_eq_true rfl) rfl (Nat.le_of_ble_eq_true rfl) ?_
      refine G_bipush (q := 49) (v := (6 : Int32)) cx dX7_lift_47 rfl (by decide) ?_
      refine G_icmp_lt (q := 52) (t := 55) cx dX7_lift_49 rfl (by decide) (fun c21 => ?_) (fun c21 => ?_)
      · refine G_aload_n (q := 56) cx dX7_lift_55 rfl rfl ?_
        refine G_getr (q := 59) (g := 5) (i' := 0) cx dX7_lift_56 rfl cf_7 fl_RX7_23 (Nat.le_of_ble_eq_true rfl) rfl rfl (Nat.le_of_ble_eq_true rfl) ?_
        refine G_getr (q := 62) (g := 12) (i' := 0) cx dX7_lift_59 rfl cf_5 fl_RX7_84 (Nat.le_of_ble_eq_true rfl) rfl rfl (Nat.le_of_ble_eq_true rfl) ?_
        refine G_aload_n (q := 63) cx dX7_lift_62 rfl rfl ?_
        refine G_getr (q := 66) (g := 5) (i' := 0) cx dX7_lift_63 rfl cf_7 fl_RX7_23 (Nat.le_of_ble_eq_true rfl) rfl rfl (Nat.le_of_ble_eq_true rfl) ?_
        refine G_geti (q := 69) cx dX7_lift_66 rfl cf_5 fl_RX7_81 (Nat.le_of_ble_eq_true rfl) rfl (Nat.le_of_ble_eq_true rfl) ?_
        refine G_aaldL (q := 70) cx dX7_lift_69 rfl (Nat.le_of_ble_eq_true rfl) (fun g22 g23 => ?_)
        refine G_iload_n (q := 71) cx dX7_lift_70 rfl rfl ?_
        refine G_iload_n (q := 72) cx dX7_lift_71 rfl rfl ?_
        refine G_iload_n (q := 73) cx dX7_lift_72 rfl rfl ?_
        refine G_iload (q := 75) cx dX7_lift_73 rfl rfl ?_
        refine G_callV (q := 78) (d' := 1) (f := 3) (i := (6 * 0 + (gI S17 5 0 5).toNatClampNeg)) (As := [.int a1, .int a2, .int a3, .int a4]) (rest := []) (stk := fun _ => []) cx dX7_lift_75 rfl cf_3 (by show 6 * 0 + (gI S17 5 0 5).toNatClampNeg < 12; omega) ml_RX7_88 rfl rfl (Nat.le_of_ble_eq_true rfl) (Nat.le_of_ble_eq_true rfl) (Nat.le_of_ble_eq_true rfl) (c_X3_begin l hJ _ (6 * 0 + (gI S17 5 0 5).toNatClampNeg) a1 a2 a3 a4 (by show 6 * 0 + (gI S17 5 0 5).toNatClampNeg < 12; omega)) (fun _ => rfl) (fun r24 S25 h26 o27 => ?_)
        refine G_aload_n (q := 79) cx dX7_lift_78 rfl rfl ?_
        refine G_getr (q := 82) (g := 5) (i' := 0) cx dX7_lift_79 rfl cf_7 fl_RX7_23 (Nat.le_of_ble_eq_true rfl) rfl rfl (Nat.le_of_ble_eq_true rfl) ?_
        refine G_dup (q := 83) cx dX7_lift_82 rfl rfl ?_
        refine G_geti (q := 86) cx dX7_lift_83 rfl cf_5 fl_RX7_81 (Nat.le_of_ble_eq_true rfl) rfl (Nat.le_of_ble_eq_true rfl) ?_
        refine G_iconst (q := 87) (v := (1 : Int32)) cx dX7_lift_86 rfl (by decide) ?_
        refine G_iadd (q := 88) cx dX7_lift_87 rfl ?_
        refine G_puti (q := 91) cx dX7_lift_88 rfl cf_5 fl_RX7_81 (Nat.le_of_ble_eq_true rfl) rfl rfl rfl rfl rfl (Nat.le_of_ble_eq_true rfl) ?_
        refine G_aload_n (q := 92) cx dX7_lift_91 rfl rfl ?_
        refine G_getr (q := 95) (g := 5) (i' := 0) cx dX7_lift_92 rfl cf_7 fl_RX7_23 (Nat.le_of_ble_eq_true rfl) rfl rfl (Nat.le_of_ble_eq_true rfl) ?_
        refine G_geti (q := 98) cx dX7_lift_95 rfl cf_5 fl_RX7_81 (Nat.le_of_ble_eq_true rfl) rfl (Nat.le_of_ble_eq_true rfl) ?_
        refine G_iconst (q := 99) (v := (1 : Int32)) cx dX7_lift_98 rfl (by decide) ?_
        refine G_isub (q := 100) cx dX7_lift_99 rfl ?_
        exact G_iret cx rfl dX7_lift_100 trivial
      · refine G_bipush (q := 54) (v := (-4 : Int32)) cx dX7_lift_52 rfl (by decide) ?_
        exact G_iret cx rfl dX7_lift_54 trivial
    · refine G_bipush (q := 39) (v := (-2 : Int32)) cx dX7_lift_37 rfl (by decide) ?_
      exact G_iret cx rfl dX7_lift_39 trivial
  · refine G_iconst (q := 8) (v := (-1 : Int32)) cx dX7_lift_7 rfl (by decide) ?_
    exact G_iret cx rfl dX7_lift_8 trivial
def F_X7_isLift (S : St) (a1 : Int32) : Option (Int32 × St) :=
  if a1 < 0 then (some ((0 : Int32), S))
  else (if (gI S 5 0 5) ≤ a1 then (some ((0 : Int32), S))
  else (some ((1 : Int32), S)))
set_option maxRecDepth 10000 in
theorem c_X7_isLift (l : Launch) {D : va_G} {cy : Nat → ClassId} {ad : Nat → Nat → Nat} {k : Nat} (hJ : wJ ad (nX k)) (S : St) (a1 : Int32) : CT l yX7_isLift cX7_isLift 2 (some .boolean) 0 D cy ad (nX k) toI okZ [.ref (ad 7 0), .int a1] S (F_X7_isLift S a1) := by
  refine CT.of RX7 (by decide) rfl hJ (Nat.le_of_ble_eq_true rfl) rfl ?_
  intro p e s m below meth c cx
  unfold F_X7_isLift
  refine G_iload_n (q := 1) cx dX7_isLift_0 rfl rfl ?_
  refine G_if_lt (q := 4) (t := 19) cx dX7_isLift_1 rfl (by decide) (fun c1 => ?_) (fun c1 => ?_)
  · refine G_iconst (q := 20) (v := (0 : Int32)) cx dX7_isLift_19 rfl (by decide) ?_
    exact G_zret (ty := .boolean) cx rfl dX7_isLift_20 rfl rfl
  refine G_iload_n (q := 5) cx dX7_isLift_4 rfl rfl ?_
  refine G_aload_n (q := 6) cx dX7_isLift_5 rfl rfl ?_
  refine G_getr (q := 9) (g := 5) (i' := 0) cx dX7_isLift_6 rfl cf_7 fl_RX7_23 (Nat.le_of_ble_eq_true rfl) rfl rfl (Nat.le_of_ble_eq_true rfl) ?_
  refine G_geti (q := 12) cx dX7_isLift_9 rfl cf_5 fl_RX7_81 (Nat.le_of_ble_eq_true rfl) rfl (Nat.le_of_ble_eq_true rfl) ?_
  refine G_icmp_ge (q := 15) (t := 19) cx dX7_isLift_12 rfl (by decide) (fun c2 => ?_) (fun c2 => ?_)
  · refine G_iconst (q := 20) (v := (0 : Int32)) cx dX7_isLift_19 rfl (by decide) ?_
    exact G_zret (ty := .boolean) cx rfl dX7_isLift_20 rfl rfl
  · refine G_iconst (q := 16) (v := (1 : Int32)) cx dX7_isLift_15 rfl (by decide) ?_
    refine G_goto (t := 20) cx dX7_isLift_16 (by decide) ?_
    exact G_zret (ty := .boolean) cx rfl dX7_isLift_20 rfl rfl
def F_X7_of (S : St) (a1 : Int32) (a2 : Int32) : Option (Int32 × St) :=
  bnd (F_X7_isLift S a1) (fun r1 S2 =>
  if r1 = 0 then (some ((-1001 : Int32), S2))
  else (if 0 ≤ a1 ∧ a1.toNatClampNeg < 6 then (if a2 = 0 then (some (gI S2 3 (6 * 0 + a1.toNatClampNeg) 2, S2))
  else (if a2 = 1 then (some (gI S2 3 (6 * 0 + a1.toNatClampNeg) 3, S2))
  else (if a2 = 2 then (some (gI S2 3 (6 * 0 + a1.toNatClampNeg) 4, S2))
  else (if a2 = 3 then (some (gI S2 3 (6 * 0 + a1.toNatClampNeg) 5, S2))
  else (if a2 = 4 then ((gR S2 5 0 8).elim none
  (fun p13 => bnd (F_X3_gain S2 (6 * 0 + a1.toNatClampNeg) p13 (gI S2 2 0 1) (gI S2 2 0 2)) (fun r16 S17 =>
  some (r16, S17))))
  else (if a2 = 5 then ((gR S2 5 0 8).elim none
  (fun p21 => bnd (F_X3_climb S2 (6 * 0 + a1.toNatClampNeg) p21 (gI S2 2 0 1) (gI S2 2 0 2)) (fun r24 S25 =>
  some (r24, S25))))
  else (some ((-1001 : Int32), S2))))))))
  else none))
set_option maxRecDepth 10000 in
theorem c_X7_of (l : Launch) {D : va_G} {cy : Nat → ClassId} {ad : Nat → Nat → Nat} {k : Nat} (hJ : wJ ad (nX k)) (S : St) (a1 : Int32) (a2 : Int32) : CT l yX7_of cX7_of 4 (some .int) 4 D cy ad (nX k) toI okT [.ref (ad 7 0), .int a1, .int a2] S (F_X7_of S a1 a2) := by
  refine CT.of RX7 (by decide) rfl hJ (Nat.le_of_ble_eq_true rfl) rfl ?_
  intro p e s m below meth c cx
  unfold F_X7_of
  refine G_aload_n (q := 1) cx dX7_of_0 rfl rfl ?_
  refine G_iload_n (q := 2) cx dX7_of_1 rfl rfl ?_
  refine G_callV (q := 5) (d' := 0) (f := 7) (i := 0) (As := [.int a1]) (rest := []) (stk := fun r1 => [.int r1]) cx dX7_of_2 rfl cf_7 (Nat.le_of_ble_eq_true rfl) ml_RX7_94 rfl rfl (Nat.le_of_ble_eq_true rfl) (Nat.le_of_ble_eq_true rfl) (Nat.le_of_ble_eq_true rfl) (c_X7_isLift l hJ _ a1) (fun _ => rfl) (fun r1 S2 h3 o4 => ?_)
  refine G_if_ne (q := 8) (t := 12) cx dX7_of_5 rfl (by decide) (fun c5 => ?_) (fun c5 => ?_)
  · refine G_aload_n (q := 13) cx dX7_of_12 rfl rfl ?_
    refine G_getr (q := 16) (g := 5) (i' := 0) cx dX7_of_13 rfl cf_7 fl_RX7_23 (Nat.le_of_ble_eq_true rfl) rfl rfl (Nat.le_of_ble_eq_true rfl) ?_
    refine G_getr (q := 19) (g := 12) (i' := 0) cx dX7_of_16 rfl cf_5 fl_RX7_84 (Nat.le_of_ble_eq_true rfl) rfl rfl (Nat.le_of_ble_eq_true rfl) ?_
    refine G_iload_n (q := 20) cx dX7_of_19 rfl rfl ?_
    refine G_aaldL (q := 21) cx dX7_of_20 rfl (Nat.le_of_ble_eq_true rfl) (fun g6 g7 => ?_)
    refine G_astore_n (q := 22) (ls' := [(3, .ref (ad 3 (6 * 0 + a1.toNatClampNeg))), (0, .ref (ad 7 0)), (1, .int a1), (2, .int a2)]) cx dX7_of_21 rfl rfl (Nat.le_of_ble_eq_true rfl) rfl ?_
    refine G_iload_n (q := 23) cx dX7_of_22 rfl rfl ?_
    refine G_case (fun w8 => ?_) (fun w8 => ?_)
    · refine G_tswIn (t := 60) (off := 37) cx dX7_of_23 w8 (by decide) (by decide) (by decide) (by decide) ?_
      refine G_aload_n (q := 61) cx dX7_of_60 rfl rfl ?_
      refine G_geti (q := 64) cx dX7_of_61 rfl cf_3 fl_RX7_97 (Nat.le_of_ble_eq_true rfl) rfl (by show 6 * 0 + a1.toNatClampNeg < 12; omega) ?_
      exact G_iret cx rfl dX7_of_64 trivial
    refine G_case (fun w9 => ?_) (fun w9 => ?_)
    · refine G_tswIn (t := 65) (off := 42) cx dX7_of_23 w9 (by decide) (by decide) (by decide) (by decide) ?_
      refine G_aload_n (q := 66) cx dX7_of_65 rfl rfl ?_
      refine G_geti (q := 69) cx dX7_of_66 rfl cf_3 fl_RX7_100 (Nat.le_of_ble_eq_true rfl) rfl (by show 6 * 0 + a1.toNatClampNeg < 12; omega) ?_
      exact G_iret cx rfl dX7_of_69 trivial
    refine G_case (fun w10 => ?_) (fun w10 => ?_)
    · refine G_tswIn (t := 70) (off := 47) cx dX7_of_23 w10 (by decide) (by decide) (by decide) (by decide) ?_
      refine G_aload_n (q := 71) cx dX7_of_70 rfl rfl ?_
      refine G_geti (q := 74) cx dX7_of_71 rfl cf_3 fl_RX7_103 (Nat.le_of_ble_eq_true rfl) rfl (by show 6 * 0 + a1.toNatClampNeg < 12; omega) ?_
      exact G_iret cx rfl dX7_of_74 trivial
    refine G_case (fun w11 => ?_) (fun w11 => ?_)
    · refine G_tswIn (t := 75) (off := 52) cx dX7_of_23 w11 (by decide) (by decide) (by decide) (by decide) ?_
      refine G_aload_n (q := 76) cx dX7_of_75 rfl rfl ?_
      refine G_geti (q := 79) cx dX7_of_76 rfl cf_3 fl_RX7_106 (Nat.le_of_ble_eq_true rfl) rfl (by show 6 * 0 + a1.toNatClampNeg < 12; omega) ?_
      exact G_iret cx rfl dX7_of_79 trivial
    refine G_case (fun w12 => ?_) (fun w12 => ?_)
    · refine G_tswIn (t := 80) (off := 57) cx dX7_of_23 w12 (by decide) (by decide) (by decide) (by decide) ?_
      refine G_aload_n (q := 81) cx dX7_of_80 rfl rfl ?_
      refine G_aload_n (q := 82) cx dX7_of_81 rfl rfl ?_
      refine G_getr (q := 85) (g := 5) (i' := 0) cx dX7_of_82 rfl cf_7 fl_RX7_23 (Nat.le_of_ble_eq_true rfl) rfl rfl (Nat.le_of_ble_eq_true rfl) ?_
      refine G_geta (q := 88) cx dX7_of_85 rfl cf_5 fl_RX7_109 (Nat.le_of_ble_eq_true rfl) rfl (Nat.le_of_ble_eq_true rfl) (fun e14 => ?_) (fun p13 e15 h_p13 => ?_)
      · exact G_none
      refine G_aload_n (q := 89) cx dX7_of_88 rfl rfl ?_
      refine G_getr (q := 92) (g := 5) (i' := 0) cx dX7_of_89 rfl cf_7 fl_RX7_23 (Nat.le_of_ble_eq_true rfl) rfl rfl (Nat.le_of_ble_eq_true rfl) ?_
      refine G_getr (q := 95) (g := 2) (i' := 0) cx dX7_of_92 rfl cf_5 fl_RX7_112 (Nat.le_of_ble_eq_true rfl) rfl rfl (Nat.le_of_ble_eq_true rfl) ?_
      refine G_geti (q := 98) cx dX7_of_95 rfl cf_2 fl_RX7_115 (Nat.le_of_ble_eq_true rfl) rfl (Nat.le_of_ble_eq_true rfl) ?_
      refine G_aload_n (q := 99) cx dX7_of_98 rfl rfl ?_
      refine G_getr (q := 102) (g := 5) (i' := 0) cx dX7_of_99 rfl cf_7 fl_RX7_23 (Nat.le_of_ble_eq_true rfl) rfl rfl (Nat.le_of_ble_eq_true rfl) ?_
      refine G_getr (q := 105) (g := 2) (i' := 0) cx dX7_of_102 rfl cf_5 fl_RX7_112 (Nat.le_of_ble_eq_true rfl) rfl rfl (Nat.le_of_ble_eq_true rfl) ?_
      refine G_geti (q := 108) cx dX7_of_105 rfl cf_2 fl_RX7_118 (Nat.le_of_ble_eq_true rfl) rfl (Nat.le_of_ble_eq_true rfl) ?_
      refine G_callV (q := 111) (d' := 2) (f := 3) (i := (6 * 0 + a1.toNatClampNeg)) (As := [.ref (ad 0 p13), .int (gI S2 2 0 1), .int (gI S2 2 0 2)]) (rest := []) (stk := fun r16 => [.int r16]) cx dX7_of_108 rfl cf_3 (by show 6 * 0 + a1.toNatClampNeg < 12; omega) ml_RX7_121 rfl rfl (Nat.le_of_ble_eq_true rfl) (Nat.le_of_ble_eq_true rfl) (Nat.le_of_ble_eq_true rfl) (c_X3_gain l hJ _ (6 * 0 + a1.toNatClampNeg) p13 (gI S2 2 0 1) (gI S2 2 0 2) (by show 6 * 0 + a1.toNatClampNeg < 12; omega) h_p13) (fun _ => rfl) (fun r16 S17 h18 o19 => ?_)
      exact G_iret cx rfl dX7_of_111 trivial
    refine G_case (fun w20 => ?_) (fun w20 => ?_)
    · refine G_tswIn (t := 112) (off := 89) cx dX7_of_23 w20 (by decide) (by decide) (by decide) (by decide) ?_
      refine G_aload_n (q := 113) cx dX7_of_112 rfl rfl ?_
      refine G_aload_n (q := 114) cx dX7_of_113 rfl rfl ?_
      refine G_getr (q := 117) (g := 5) (i' := 0) cx dX7_of_114 rfl cf_7 fl_RX7_23 (Nat.le_of_ble_eq_true rfl) rfl rfl (Nat.le_of_ble_eq_true rfl) ?_
      refine G_geta (q := 120) cx dX7_of_117 rfl cf_5 fl_RX7_109 (Nat.le_of_ble_eq_true rfl) rfl (Nat.le_of_ble_eq_true rfl) (fun e22 => ?_) (fun p21 e23 h_p21 => ?_)
      · exact G_none
      refine G_aload_n (q := 121) cx dX7_of_120 rfl rfl ?_
      refine G_getr (q := 124) (g := 5) (i' := 0) cx dX7_of_121 rfl cf_7 fl_RX7_23 (Nat.le_of_ble_eq_true rfl) rfl rfl (Nat.le_of_ble_eq_true rfl) ?_
      refine G_getr (q := 127) (g := 2) (i' := 0) cx dX7_of_124 rfl cf_5 fl_RX7_112 (Nat.le_of_ble_eq_true rfl) rfl rfl (Nat.le_of_ble_eq_true rfl) ?_
      refine G_geti (q := 130) cx dX7_of_127 rfl cf_2 fl_RX7_115 (Nat.le_of_ble_eq_true rfl) rfl (Nat.le_of_ble_eq_true rfl) ?_
      refine G_aload_n (q := 131) cx dX7_of_130 rfl rfl ?_
      refine G_getr (q := 134) (g := 5) (i' := 0) cx dX7_of_131 rfl cf_7 fl_RX7_23 (Nat.le_of_ble_eq_true rfl) rfl rfl (Nat.le_of_ble_eq_true rfl) ?_
      refine G_getr (q := 137) (g := 2) (i' := 0) cx dX7_of_134 rfl cf_5 fl_RX7_112 (Nat.le_of_ble_eq_true rfl) rfl rfl (Nat.le_of_ble_eq_true rfl) ?_
      refine G_geti (q := 140) cx dX7_of_137 rfl cf_2 fl_RX7_118 (Nat.le_of_ble_eq_true rfl) rfl (Nat.le_of_ble_eq_true rfl) ?_
      refine G_callV (q := 143) (d' := 3) (f := 3) (i := (6 * 0 + a1.toNatClampNeg)) (As := [.ref (ad 0 p21), .int (gI S2 2 0 1), .int (gI S2 2 0 2)]) (rest := []) (stk := fun r24 => [.int r24]) cx dX7_of_140 rfl cf_3 (by show 6 * 0 + a1.toNatClampNeg < 12; omega) ml_RX7_125 rfl rfl (Nat.le_of_ble_eq_true rfl) (Nat.le_of_ble_eq_true rfl) (Nat.le_of_ble_eq_true rfl) (c_X3_climb l hJ _ (6 * 0 + a1.toNatClampNeg) p21 (gI S2 2 0 1) (gI S2 2 0 2) (by show 6 * 0 + a1.toNatClampNeg < 12; omega) h_p21) (fun _ => rfl) (fun r24 S25 h26 o27 => ?_)
      exact G_iret cx rfl dX7_of_143 trivial
    have hz23_0 := lv_neT w8 (show (0 : Int32).toInt = 0 by decide)
    have hz23_1 := lv_neT w9 (show (1 : Int32).toInt = 1 by decide)
    have hz23_2 := lv_neT w10 (show (2 : Int32).toInt = 2 by decide)
    have hz23_3 := lv_neT w11 (show (3 : Int32).toInt = 3 by decide)
    have hz23_4 := lv_neT w12 (show (4 : Int32).toInt = 4 by decide)
    have hz23_5 := lv_neT w20 (show (5 : Int32).toInt = 5 by decide)
    refine G_tswOut (t := 144) cx dX7_of_23 (by omega) (by decide) ?_
    refine G_sipush (q := 147) (v := (-1001 : Int32)) cx dX7_of_144 rfl (by decide) ?_
    exact G_iret cx rfl dX7_of_147 trivial
  · refine G_sipush (q := 11) (v := (-1001 : Int32)) cx dX7_of_8 rfl (by decide) ?_
    exact G_iret cx rfl dX7_of_11 trivial
def F_X7_pull (S : St) (a1 : Int32) (a2 : Int32) : Option (Int32 × St) :=
  bnd (F_X7_isLift S a1) (fun r1 S2 =>
  if r1 = 0 then (some ((-1 : Int32), S2))
  else (bnd (F_X7_isWithin S2 a2 (0 : Int32) (20 : Int32)) (fun r6 S7 =>
  if r6 = 0 then (some ((-2 : Int32), S7))
  else (if 0 ≤ a1 ∧ a1.toNatClampNeg < 6 then (if 0 ≤ a1 ∧ a1.toNatClampNeg < 6 then (some (gI S7 3 (6 * 0 + a1.toNatClampNeg) 5, (sI S7 3 (6 * 0 + a1.toNatClampNeg) 5 a2)))
  else none)
  else none))))
set_option maxRecDepth 10000 in
theorem c_X7_pull (l : Launch) {D : va_G} {cy : Nat → ClassId} {ad : Nat → Nat → Nat} {k : Nat} (hJ : wJ ad (nX k)) (S : St) (a1 : Int32) (a2 : Int32) : CT l yX7_pull cX7_pull 4 (some .int) 1 D cy ad (nX k) toI okT [.ref (ad 7 0), .int a1, .int a2] S (F_X7_pull S a1 a2) := by
  refine CT.of RX7 (by decide) rfl hJ (Nat.le_of_ble_eq_true rfl) rfl ?_
  intro p e s m below meth c cx
  unfold F_X7_pull
  refine G_aload_n (q := 1) cx dX7_pull_0 rfl rfl ?_
  refine G_iload_n (q := 2) cx dX7_pull_1 rfl rfl ?_
  refine G_callV (q := 5) (d' := 0) (f := 7) (i := 0) (As := [.int a1]) (rest := []) (stk := fun r1 => [.int r1]) cx dX7_pull_2 rfl cf_7 (Nat.le_of_ble_eq_true rfl) ml_RX7_94 rfl rfl (Nat.le_of_ble_eq_true rfl) (Nat.le_of_ble_eq_true rfl) (Nat.le_of_ble_eq_true rfl) (c_X7_isLift l hJ _ a1) (fun _ => rfl) (fun r1 S2 h3 o4 => ?_)
  refine G_if_ne (q := 8) (t := 10) cx dX7_pull_5 rfl (by decide) (fun c5 => ?_) (fun c5 => ?_)
  · refine G_iload_n (q := 11) cx dX7_pull_10 rfl rfl ?_
    refine G_iconst (q := 12) (v := (0 : Int32)) cx dX7_pull_11 rfl (by decide) ?_
    refine G_bipush (q := 14) (v := (20 : Int32)) cx dX7_pull_12 rfl (by decide) ?_
    refine G_callS (q := 17) (d' := 0) (As := [.int a2, .int (0 : Int32), .int (20 : Int32)]) (rest := []) (stk := fun r6 => [.int r6]) cx dX7_pull_14 rfl ml_RX7_74 rfl rfl (Nat.le_of_ble_eq_true rfl) (Nat.le_of_ble_eq_true rfl) (Nat.le_of_ble_eq_true rfl) (c_X7_isWithin l hJ _ a2 (0 : Int32) (20 : Int32)) (fun _ => rfl) (fun r6 S7 h8 o9 => ?_)
    refine G_if_ne (q := 20) (t := 23) cx dX7_pull_17 rfl (by decide) (fun c10 => ?_) (fun c10 => ?_)
    · refine G_aload_n (q := 24) cx dX7_pull_23 rfl rfl ?_
      refine G_getr (q := 27) (g := 5) (i' := 0) cx dX7_pull_24 rfl cf_7 fl_RX7_23 (Nat.le_of_ble_eq_true rfl) rfl rfl (Nat.le_of_ble_eq_true rfl) ?_
      refine G_getr (q := 30) (g := 12) (i' := 0) cx dX7_pull_27 rfl cf_5 fl_RX7_84 (Nat.le_of_ble_eq_true rfl) rfl rfl (Nat.le_of_ble_eq_true rfl) ?_
      refine G_iload_n (q := 31) cx dX7_pull_30 rfl rfl ?_
      refine G_aaldL (q := 32) cx dX7_pull_31 rfl (Nat.le_of_ble_eq_true rfl) (fun g11 g12 => ?_)
      refine G_geti (q := 35) cx dX7_pull_32 rfl cf_3 fl_RX7_106 (Nat.le_of_ble_eq_true rfl) rfl (by show 6 * 0 + a1.toNatClampNeg < 12; omega) ?_
      refine G_istore_n (q := 36) (ls' := [(3, .int (gI S7 3 (6 * 0 + a1.toNatClampNeg) 5)), (0, .ref (ad 7 0)), (1, .int a1), (2, .int a2)]) cx dX7_pull_35 rfl rfl (Nat.le_of_ble_eq_true rfl) rfl ?_
      refine G_aload_n (q := 37) cx dX7_pull_36 rfl rfl ?_
      refine G_getr (q := 40) (g := 5) (i' := 0) cx dX7_pull_37 rfl cf_7 fl_RX7_23 (Nat.le_of_ble_eq_true rfl) rfl rfl (Nat.le_of_ble_eq_true rfl) ?_
      refine G_getr (q := 43) (g := 12) (i' := 0) cx dX7_pull_40 rfl cf_5 fl_RX7_84 (Nat.le_of_ble_eq_true rfl) rfl rfl (Nat.le_of_ble_eq_true rfl) ?_
      refine G_iload_n (q := 44) cx dX7_pull_43 rfl rfl ?_
      refine G_aaldL (q := 45) cx dX7_pull_44 rfl (Nat.le_of_ble_eq_true rfl) (fun g13 g14 => ?_)
      refine G_iload_n (q := 46) cx dX7_pull_45 rfl rfl ?_
      refine G_puti (q := 49) cx dX7_pull_46 rfl cf_3 fl_RX7_106 (Nat.le_of_ble_eq_true rfl) rfl rfl rfl rfl rfl (by show 6 * 0 + a1.toNatClampNeg < 12; omega) ?_
      refine G_iload_n (q := 50) cx dX7_pull_49 rfl rfl ?_
      exact G_iret cx rfl dX7_pull_50 trivial
    · refine G_bipush (q := 22) (v := (-2 : Int32)) cx dX7_pull_20 rfl (by decide) ?_
      exact G_iret cx rfl dX7_pull_22 trivial
  · refine G_iconst (q := 9) (v := (-1 : Int32)) cx dX7_pull_8 rfl (by decide) ?_
    exact G_iret cx rfl dX7_pull_9 trivial
def F_X7_row (S : St) (a1 : Int32) (a2 : Int32) (a3 : Int32) : Option (Int32 × St) :=
  bnd (F_X7_isLift S a1) (fun r1 S2 =>
  if r1 = 0 then (some ((-1 : Int32), S2))
  else (bnd (F_X7_isWithin S2 a2 (0 : Int32) (3 : Int32)) (fun r6 S7 =>
  if r6 = 0 then (some ((-1 : Int32), S7))
  else (bnd (F_X7_isWithin S7 a3 (0 : Int32) (9 : Int32)) (fun r11 S12 =>
  if r11 = 0 then (some ((-2 : Int32), S12))
  else (if 0 ≤ a1 ∧ a1.toNatClampNeg < 6 then (if (gI S12 3 (6 * 0 + a1.toNatClampNeg) 2) = (6 : Int32) then (if 0 ≤ a2 ∧ a2.toNatClampNeg < 4 then (if 0 ≤ a2 ∧ a2.toNatClampNeg < 4 then (some (gI S12 13 (6 * 0 + a1.toNatClampNeg) a2.toNatClampNeg, (sI S12 13 (6 * 0 + a1.toNatClampNeg) a2.toNatClampNeg a3)))
  else none)
  else none)
  else (some ((-3 : Int32), S12)))
  else none))))))
set_option maxRecDepth 10000 in
theorem c_X7_row (l : Launch) {D : va_G} {cy : Nat → ClassId} {ad : Nat → Nat → Nat} {k : Nat} (hJ : wJ ad (nX k)) (S : St) (a1 : Int32) (a2 : Int32) (a3 : Int32) : CT l yX7_row cX7_row 6 (some .int) 1 D cy ad (nX k) toI okT [.ref (ad 7 0), .int a1, .int a2, .int a3] S (F_X7_row S a1 a2 a3) := by
  refine CT.of RX7 (by decide) rfl hJ (Nat.le_of_ble_eq_true rfl) rfl ?_
  intro p e s m below meth c cx
  unfold F_X7_row
  refine G_aload_n (q := 1) cx dX7_row_0 rfl rfl ?_
  refine G_iload_n (q := 2) cx dX7_row_1 rfl rfl ?_
  refine G_callV (q := 5) (d' := 0) (f := 7) (i := 0) (As := [.int a1]) (rest := []) (stk := fun r1 => [.int r1]) cx dX7_row_2 rfl cf_7 (Nat.le_of_ble_eq_true rfl) ml_RX7_94 rfl rfl (Nat.le_of_ble_eq_true rfl) (Nat.le_of_ble_eq_true rfl) (Nat.le_of_ble_eq_true rfl) (c_X7_isLift l hJ _ a1) (fun _ => rfl) (fun r1 S2 h3 o4 => ?_)
  refine G_if_eq (q := 8) (t := 17) cx dX7_row_5 rfl (by decide) (fun c5 => ?_) (fun c5 => ?_)
  · refine G_iconst (q := 18) (v := (-1 : Int32)) cx dX7_row_17 rfl (by decide) ?_
    exact G_iret cx rfl dX7_row_18 trivial
  refine G_iload_n (q := 9) cx dX7_row_8 rfl rfl ?_
  refine G_iconst (q := 10) (v := (0 : Int32)) cx dX7_row_9 rfl (by decide) ?_
  refine G_iconst (q := 11) (v := (3 : Int32)) cx dX7_row_10 rfl (by decide) ?_
  refine G_callS (q := 14) (d' := 0) (As := [.int a2, .int (0 : Int32), .int (3 : Int32)]) (rest := []) (stk := fun r6 => [.int r6]) cx dX7_row_11 rfl ml_RX7_74 rfl rfl (Nat.le_of_ble_eq_true rfl) (Nat.le_of_ble_eq_true rfl) (Nat.le_of_ble_eq_true rfl) (c_X7_isWithin l hJ _ a2 (0 : Int32) (3 : Int32)) (fun _ => rfl) (fun r6 S7 h8 o9 => ?_)
  refine G_if_ne (q := 17) (t := 19) cx dX7_row_14 rfl (by decide) (fun c10 => ?_) (fun c10 => ?_)
  · refine G_iload_n (q := 20) cx dX7_row_19 rfl rfl ?_
    refine G_iconst (q := 21) (v := (0 : Int32)) cx dX7_row_20 rfl (by decide) ?_
    refine G_bipush (q := 23) (v := (9 : Int32)) cx dX7_row_21 rfl (by decide) ?_
    refine G_callS (q := 26) (d' := 0) (As := [.int a3, .int (0 : Int32), .int (9 : Int32)]) (rest := []) (stk := fun r11 => [.int r11]) cx dX7_row_23 rfl ml_RX7_74 rfl rfl (Nat.le_of_ble_eq_true rfl) (Nat.le_of_ble_eq_true rfl) (Nat.le_of_ble_eq_true rfl) (c_X7_isWithin l hJ _ a3 (0 : Int32) (9 : Int32)) (fun _ => rfl) (fun r11 S12 h13 o14 => ?_)
    refine G_if_ne (q := 29) (t := 32) cx dX7_row_26 rfl (by decide) (fun c15 => ?_) (fun c15 => ?_)
    · refine G_aload_n (q := 33) cx dX7_row_32 rfl rfl ?_
      refine G_getr (q := 36) (g := 5) (i' := 0) cx dX7_row_33 rfl cf_7 fl_RX7_23 (Nat.le_of_ble_eq_true rfl) rfl rfl (Nat.le_of_ble_eq_true rfl) ?_
      refine G_getr (q := 39) (g := 12) (i' := 0) cx dX7_row_36 rfl cf_5 fl_RX7_84 (Nat.le_of_ble_eq_true rfl) rfl rfl (Nat.le_of_ble_eq_true rfl) ?_
      refine G_iload_n (q := 40) cx dX7_row_39 rfl rfl ?_
      refine G_aaldL (q := 41) cx dX7_row_40 rfl (Nat.le_of_ble_eq_true rfl) (fun g16 g17 => ?_)
      refine G_astore (q := 43) (ls' := [(4, .ref (ad 3 (6 * 0 + a1.toNatClampNeg))), (0, .ref (ad 7 0)), (1, .int a1), (2, .int a2), (3, .int a3)]) cx dX7_row_41 rfl (Nat.le_of_ble_eq_true rfl) rfl ?_
      refine G_aload (q := 45) cx dX7_row_43 rfl rfl ?_
      refine G_geti (q := 48) cx dX7_row_45 rfl cf_3 fl_RX7_97 (Nat.le_of_ble_eq_true rfl) rfl (by show 6 * 0 + a1.toNatClampNeg < 12; omega) ?_
      refine G_bipush (q := 50) (v := (6 : Int32)) cx dX7_row_48 rfl (by decide) ?_
      refine G_icmp_eq (q := 53) (t := 56) cx dX7_row_50 rfl (by decide) (fun c18 => ?_) (fun c18 => ?_)
      · refine G_aload (q := 58) cx dX7_row_56 rfl rfl ?_
        refine G_getr (q := 61) (g := 13) (i' := 6 * 0 + a1.toNatClampNeg) cx dX7_row_58 rfl cf_3 fl_RX7_128 (Nat.le_of_ble_eq_true rfl) rfl rfl (by show 6 * 0 + a1.toNatClampNeg < 12; omega) ?_
        refine G_iload_n (q := 62) cx dX7_row_61 rfl rfl ?_
        refine G_iald (q := 63) cx dX7_row_62 rfl (by decide) rfl rfl (by show 6 * 0 + a1.toNatClampNeg < 12; omega) (fun g19 g20 => ?_)
        refine G_istore (q := 65) (ls' := [(5, .int (gI S12 13 (6 * 0 + a1.toNatClampNeg) a2.toNatClampNeg)), (4, .ref (ad 3 (6 * 0 + a1.toNatClampNeg))), (0, .ref (ad 7 0)), (1, .int a1), (2, .int a2), (3, .int a3)]) cx dX7_row_63 rfl (Nat.le_of_ble_eq_true rfl) rfl ?_
        refine G_aload (q := 67) cx dX7_row_65 rfl rfl ?_
        refine G_getr (q := 70) (g := 13) (i' := 6 * 0 + a1.toNatClampNeg) cx dX7_row_67 rfl cf_3 fl_RX7_128 (Nat.le_of_ble_eq_true rfl) rfl rfl (by show 6 * 0 + a1.toNatClampNeg < 12; omega) ?_
        refine G_iload_n (q := 71) cx dX7_row_70 rfl rfl ?_
        refine G_iload_n (q := 72) cx dX7_row_71 rfl rfl ?_
        refine G_iast (q := 73) cx dX7_row_72 rfl (by decide) rfl rfl (by show 6 * 0 + a1.toNatClampNeg < 12; omega) (fun g21 g22 => ?_)
        refine G_iload (q := 75) cx dX7_row_73 rfl rfl ?_
        exact G_iret cx rfl dX7_row_75 trivial
      · refine G_bipush (q := 55) (v := (-3 : Int32)) cx dX7_row_53 rfl (by decide) ?_
        exact G_iret cx rfl dX7_row_55 trivial
    · refine G_bipush (q := 31) (v := (-2 : Int32)) cx dX7_row_29 rfl (by decide) ?_
      exact G_iret cx rfl dX7_row_31 trivial
  · refine G_iconst (q := 18) (v := (-1 : Int32)) cx dX7_row_17 rfl (by decide) ?_
    exact G_iret cx rfl dX7_row_18 trivial
def F_X7_feed (S : St) (a1 : Int32) : Option (Int32 × St) :=
  bnd (F_X7_isWithin S a1 (0 : Int32) (127 : Int32)) (fun r1 S2 =>
  if r1 = 0 then (some ((-2 : Int32), S2))
  else (if (gI S2 1 0 1) < (100 : Int32) then (if 0 ≤ (gI S2 1 0 1) ∧ (gI S2 1 0 1).toNatClampNeg < 100 then (some (gI (sI (sI S2 17 0 (gI S2 1 0 1).toNatClampNeg (vp_nar .byte a1.toInt8.toInt32)) 1 0 1 ((gI (sI S2 17 0 (gI S2 1 0 1).toNatClampNeg (vp_nar .byte a1.toInt8.toInt32)) 1 0 1) + (1 : Int32))) 1 0 1, (sI (sI S2 17 0 (gI S2 1 0 1).toNatClampNeg (vp_nar .byte a1.toInt8.toInt32)) 1 0 1 ((gI (sI S2 17 0 (gI S2 1 0 1).toNatClampNeg (vp_nar .byte a1.toInt8.toInt32)) 1 0 1) + (1 : Int32)))))
  else none)
  else (some ((-4 : Int32), S2))))
set_option maxRecDepth 10000 in
theorem c_X7_feed (l : Launch) {D : va_G} {cy : Nat → ClassId} {ad : Nat → Nat → Nat} {k : Nat} (hJ : wJ ad (nX k)) (S : St) (a1 : Int32) : CT l yX7_feed cX7_feed 2 (some .int) 1 D cy ad (nX k) toI okT [.ref (ad 7 0), .int a1] S (F_X7_feed S a1) := by
  refine CT.of RX7 (by decide) rfl hJ (Nat.le_of_ble_eq_true rfl) rfl ?_
  intro p e s m below meth c cx
  unfold F_X7_feed
  refine G_iload_n (q := 1) cx dX7_feed_0 rfl rfl ?_
  refine G_iconst (q := 2) (v := (0 : Int32)) cx dX7_feed_1 rfl (by decide) ?_
  refine G_bipush (q := 4) (v := (127 : Int32)) cx dX7_feed_2 rfl (by decide) ?_
  refine G_callS (q := 7) (d' := 0) (As := [.int a1, .int (0 : Int32), .int (127 : Int32)]) (rest := []) (stk := fun r1 => [.int r1]) cx dX7_feed_4 rfl ml_RX7_74 rfl rfl (Nat.le_of_ble_eq_true rfl) (Nat.le_of_ble_eq_true rfl) (Nat.le_of_ble_eq_true rfl) (c_X7_isWithin l hJ _ a1 (0 : Int32) (127 : Int32)) (fun _ => rfl) (fun r1 S2 h3 o4 => ?_)
  refine G_if_ne (q := 10) (t := 13) cx dX7_feed_7 rfl (by decide) (fun c5 => ?_) (fun c5 => ?_)
  · refine G_aload_n (q := 14) cx dX7_feed_13 rfl rfl ?_
    refine G_getr (q := 17) (g := 1) (i' := 0) cx dX7_feed_14 rfl cf_7 fl_RX7_40 (Nat.le_of_ble_eq_true rfl) rfl rfl (Nat.le_of_ble_eq_true rfl) ?_
    refine G_geti (q := 20) cx dX7_feed_17 rfl cf_1 fl_RX7_131 (Nat.le_of_ble_eq_true rfl) rfl (Nat.le_of_ble_eq_true rfl) ?_
    refine G_bipush (q := 22) (v := (100 : Int32)) cx dX7_feed_20 rfl (by decide) ?_
    refine G_icmp_lt (q := 25) (t := 28) cx dX7_feed_22 rfl (by decide) (fun c6 => ?_) (fun c6 => ?_)
    · refine G_aload_n (q := 29) cx dX7_feed_28 rfl rfl ?_
      refine G_getr (q := 32) (g := 1) (i' := 0) cx dX7_feed_29 rfl cf_7 fl_RX7_40 (Nat.le_of_ble_eq_true rfl) rfl rfl (Nat.le_of_ble_eq_true rfl) ?_
      refine G_getr (q := 35) (g := 17) (i' := 0) cx dX7_feed_32 rfl cf_1 fl_RX7_134 (Nat.le_of_ble_eq_true rfl) rfl rfl (Nat.le_of_ble_eq_true rfl) ?_
      refine G_aload_n (q := 36) cx dX7_feed_35 rfl rfl ?_
      refine G_getr (q := 39) (g := 1) (i' := 0) cx dX7_feed_36 rfl cf_7 fl_RX7_40 (Nat.le_of_ble_eq_true rfl) rfl rfl (Nat.le_of_ble_eq_true rfl) ?_
      refine G_geti (q := 42) cx dX7_feed_39 rfl cf_1 fl_RX7_131 (Nat.le_of_ble_eq_true rfl) rfl (Nat.le_of_ble_eq_true rfl) ?_
      refine G_iload_n (q := 43) cx dX7_feed_42 rfl rfl ?_
      refine G_i2b (q := 44) cx dX7_feed_43 rfl ?_
      refine G_bast (q := 45) cx dX7_feed_44 rfl (by decide) rfl rfl (Nat.le_of_ble_eq_true rfl) (fun g7 g8 => ?_)
      refine G_aload_n (q := 46) cx dX7_feed_45 rfl rfl ?_
      refine G_getr (q := 49) (g := 1) (i' := 0) cx dX7_feed_46 rfl cf_7 fl_RX7_40 (Nat.le_of_ble_eq_true rfl) rfl rfl (Nat.le_of_ble_eq_true rfl) ?_
      refine G_dup (q := 50) cx dX7_feed_49 rfl rfl ?_
      refine G_geti (q := 53) cx dX7_feed_50 rfl cf_1 fl_RX7_131 (Nat.le_of_ble_eq_true rfl) rfl (Nat.le_of_ble_eq_true rfl) ?_
      refine G_iconst (q := 54) (v := (1 : Int32)) cx dX7_feed_53 rfl (by decide) ?_
      refine G_iadd (q := 55) cx dX7_feed_54 rfl ?_
      refine G_puti (q := 58) cx dX7_feed_55 rfl cf_1 fl_RX7_131 (Nat.le_of_ble_eq_true rfl) rfl rfl rfl rfl rfl (Nat.le_of_ble_eq_true rfl) ?_
      refine G_aload_n (q := 59) cx dX7_feed_58 rfl rfl ?_
      refine G_getr (q := 62) (g := 1) (i' := 0) cx dX7_feed_59 rfl cf_7 fl_RX7_40 (Nat.le_of_ble_eq_true rfl) rfl rfl (Nat.le_of_ble_eq_true rfl) ?_
      refine G_geti (q := 65) cx dX7_feed_62 rfl cf_1 fl_RX7_131 (Nat.le_of_ble_eq_true rfl) rfl (Nat.le_of_ble_eq_true rfl) ?_
      exact G_iret cx rfl dX7_feed_65 trivial
    · refine G_bipush (q := 27) (v := (-4 : Int32)) cx dX7_feed_25 rfl (by decide) ?_
      exact G_iret cx rfl dX7_feed_27 trivial
  · refine G_bipush (q := 12) (v := (-2 : Int32)) cx dX7_feed_10 rfl (by decide) ?_
    exact G_iret cx rfl dX7_feed_12 trivial
def F_X7_home (S : St) (a1 : Int32) : Option (Int32 × St) :=
  bnd (F_X7_isMile S a1) (fun r1 S2 =>
  if r1 = 0 then (some ((-2 : Int32), S2))
  else (some (gI S2 5 0 7, (sI S2 5 0 7 a1))))
set_option maxRecDepth 10000 in
theorem c_X7_home (l : Launch) {D : va_G} {cy : Nat → ClassId} {ad : Nat → Nat → Nat} {k : Nat} (hJ : wJ ad (nX k)) (S : St) (a1 : Int32) : CT l yX7_home cX7_home 3 (some .int) 2 D cy ad (nX k) toI okT [.ref (ad 7 0), .int a1] S (F_X7_home S a1) := by
  refine CT.of RX7 (by decide) rfl hJ (Nat.le_of_ble_eq_true rfl) rfl ?_
  intro p e s m below meth c cx
  unfold F_X7_home
  refine G_iload_n (q := 1) cx dX7_home_0 rfl rfl ?_
  refine G_callS (q := 4) (d' := 1) (As := [.int a1]) (rest := []) (stk := fun r1 => [.int r1]) cx dX7_home_1 rfl ml_RX7_78 rfl rfl (Nat.le_of_ble_eq_true rfl) (Nat.le_of_ble_eq_true rfl) (Nat.le_of_ble_eq_true rfl) (c_X7_isMile l hJ _ a1) (fun _ => rfl) (fun r1 S2 h3 o4 => ?_)
  refine G_if_ne (q := 7) (t := 10) cx dX7_home_4 rfl (by decide) (fun c5 => ?_) (fun c5 => ?_)
  · refine G_aload_n (q := 11) cx dX7_home_10 rfl rfl ?_
    refine G_getr (q := 14) (g := 5) (i' := 0) cx dX7_home_11 rfl cf_7 fl_RX7_23 (Nat.le_of_ble_eq_true rfl) rfl rfl (Nat.le_of_ble_eq_true rfl) ?_
    refine G_geti (q := 17) cx dX7_home_14 rfl cf_5 fl_RX7_145 (Nat.le_of_ble_eq_true rfl) rfl (Nat.le_of_ble_eq_true rfl) ?_
    refine G_istore_n (q := 18) (ls' := [(2, .int (gI S2 5 0 7)), (0, .ref (ad 7 0)), (1, .int a1)]) cx dX7_home_17 rfl rfl (Nat.le_of_ble_eq_true rfl) rfl ?_
    refine G_aload_n (q := 19) cx dX7_home_18 rfl rfl ?_
    refine G_getr (q := 22) (g := 5) (i' := 0) cx dX7_home_19 rfl cf_7 fl_RX7_23 (Nat.le_of_ble_eq_true rfl) rfl rfl (Nat.le_of_ble_eq_true rfl) ?_
    refine G_iload_n (q := 23) cx dX7_home_22 rfl rfl ?_
    refine G_puti (q := 26) cx dX7_home_23 rfl cf_5 fl_RX7_145 (Nat.le_of_ble_eq_true rfl) rfl rfl rfl rfl rfl (Nat.le_of_ble_eq_true rfl) ?_
    refine G_iload_n (q := 27) cx dX7_home_26 rfl rfl ?_
    exact G_iret cx rfl dX7_home_27 trivial
  · refine G_bipush (q := 9) (v := (-2 : Int32)) cx dX7_home_7 rfl (by decide) ?_
    exact G_iret cx rfl dX7_home_9 trivial
def F_X7_height (S : St) (a1 : Int32) : Option (Int32 × St) :=
  bnd (F_X7_isWithin S a1 (0 : Int32) (400 : Int32)) (fun r1 S2 =>
  if r1 = 0 then (some ((-2 : Int32), S2))
  else (some (gI S2 2 0 1, (sI S2 2 0 1 a1))))
set_option maxRecDepth 10000 in
theorem c_X7_height (l : Launch) {D : va_G} {cy : Nat → ClassId} {ad : Nat → Nat → Nat} {k : Nat} (hJ : wJ ad (nX k)) (S : St) (a1 : Int32) : CT l yX7_height cX7_height 3 (some .int) 1 D cy ad (nX k) toI okT [.ref (ad 7 0), .int a1] S (F_X7_height S a1) := by
  refine CT.of RX7 (by decide) rfl hJ (Nat.le_of_ble_eq_true rfl) rfl ?_
  intro p e s m below meth c cx
  unfold F_X7_height
  refine G_iload_n (q := 1) cx dX7_height_0 rfl rfl ?_
  refine G_iconst (q := 2) (v := (0 : Int32)) cx dX7_height_1 rfl (by decide) ?_
  refine G_sipush (q := 5) (v := (400 : Int32)) cx dX7_height_2 rfl (by decide) ?_
  refine G_callS (q := 8) (d' := 0) (As := [.int a1, .int (0 : Int32), .int (400 : Int32)]) (rest := []) (stk := fun r1 => [.int r1]) cx dX7_height_5 rfl ml_RX7_74 rfl rfl (Nat.le_of_ble_eq_true rfl) (Nat.le_of_ble_eq_true rfl) (Nat.le_of_ble_eq_true rfl) (c_X7_isWithin l hJ _ a1 (0 : Int32) (400 : Int32)) (fun _ => rfl) (fun r1 S2 h3 o4 => ?_)
  refine G_if_ne (q := 11) (t := 14) cx dX7_height_8 rfl (by decide) (fun c5 => ?_) (fun c5 => ?_)
  · refine G_aload_n (q := 15) cx dX7_height_14 rfl rfl ?_
    refine G_getr (q := 18) (g := 5) (i' := 0) cx dX7_height_15 rfl cf_7 fl_RX7_23 (Nat.le_of_ble_eq_true rfl) rfl rfl (Nat.le_of_ble_eq_true rfl) ?_
    refine G_getr (q := 21) (g := 2) (i' := 0) cx dX7_height_18 rfl cf_5 fl_RX7_112 (Nat.le_of_ble_eq_true rfl) rfl rfl (Nat.le_of_ble_eq_true rfl) ?_
    refine G_geti (q := 24) cx dX7_height_21 rfl cf_2 fl_RX7_115 (Nat.le_of_ble_eq_true rfl) rfl (Nat.le_of_ble_eq_true rfl) ?_
    refine G_istore_n (q := 25) (ls' := [(2, .int (gI S2 2 0 1)), (0, .ref (ad 7 0)), (1, .int a1)]) cx dX7_height_24 rfl rfl (Nat.le_of_ble_eq_true rfl) rfl ?_
    refine G_aload_n (q := 26) cx dX7_height_25 rfl rfl ?_
    refine G_getr (q := 29) (g := 5) (i' := 0) cx dX7_height_26 rfl cf_7 fl_RX7_23 (Nat.le_of_ble_eq_true rfl) rfl rfl (Nat.le_of_ble_eq_true rfl) ?_
    refine G_getr (q := 32) (g := 2) (i' := 0) cx dX7_height_29 rfl cf_5 fl_RX7_112 (Nat.le_of_ble_eq_true rfl) rfl rfl (Nat.le_of_ble_eq_true rfl) ?_
    refine G_iload_n (q := 33) cx dX7_height_32 rfl rfl ?_
    refine G_puti (q := 36) cx dX7_height_33 rfl cf_2 fl_RX7_115 (Nat.le_of_ble_eq_true rfl) rfl rfl rfl rfl rfl (Nat.le_of_ble_eq_true rfl) ?_
    refine G_iload_n (q := 37) cx dX7_height_36 rfl rfl ?_
    exact G_iret cx rfl dX7_height_37 trivial
  · refine G_bipush (q := 13) (v := (-2 : Int32)) cx dX7_height_11 rfl (by decide) ?_
    exact G_iret cx rfl dX7_height_13 trivial
def F_X7_told (S : St) (a1 : Int32) : Option (Int32 × St) :=
  if a1 = 0 then (some (gI S 2 0 2, S))
  else (if a1 = 1 then (some (gI S 2 0 0, S))
  else (if a1 = 2 then (some (gI S 2 0 1, S))
  else (if a1 = 3 then (some (gI S 5 0 6, S))
  else (if a1 = 4 then (some (gI S 5 0 7, S))
  else (if a1 = 5 then ((gR S 5 0 8).elim none
  (fun p7 => some (gI S 0 p7 2, S)))
  else (if a1 = 6 then ((gR S 5 0 8).elim none
  (fun p11 => some (gI S 0 p11 3, S)))
  else (some ((-1 : Int32), S))))))))
set_option maxRecDepth 10000 in
theorem c_X7_told (l : Launch) {D : va_G} {cy : Nat → ClassId} {ad : Nat → Nat → Nat} {k : Nat} (hJ : wJ ad (nX k)) (S : St) (a1 : Int32) : CT l yX7_told cX7_told 2 (some .int) 0 D cy ad (nX k) toI okT [.ref (ad 7 0), .int a1] S (F_X7_told S a1) := by
  refine CT.of RX7 (by decide) rfl hJ (Nat.le_of_ble_eq_true rfl) rfl ?_
  intro p e s m below meth c cx
  unfold F_X7_told
  refine G_iload_n (q := 1) cx dX7_told_0 rfl rfl ?_
  refine G_case (fun w1 => ?_) (fun w1 => ?_)
  · refine G_tswIn (t := 44) (off := 43) cx dX7_told_1 w1 (by decide) (by decide) (by decide) (by decide) ?_
    refine G_aload_n (q := 45) cx dX7_told_44 rfl rfl ?_
    refine G_getr (q := 48) (g := 5) (i' := 0) cx dX7_told_45 rfl cf_7 fl_RX7_23 (Nat.le_of_ble_eq_true rfl) rfl rfl (Nat.le_of_ble_eq_true rfl) ?_
    refine G_getr (q := 51) (g := 2) (i' := 0) cx dX7_told_48 rfl cf_5 fl_RX7_112 (Nat.le_of_ble_eq_true rfl) rfl rfl (Nat.le_of_ble_eq_true rfl) ?_
    refine G_geti (q := 54) cx dX7_told_51 rfl cf_2 fl_RX7_118 (Nat.le_of_ble_eq_true rfl) rfl (Nat.le_of_ble_eq_true rfl) ?_
    exact G_iret cx rfl dX7_told_54 trivial
  refine G_case (fun w2 => ?_) (fun w2 => ?_)
  · refine G_tswIn (t := 55) (off := 54) cx dX7_told_1 w2 (by decide) (by decide) (by decide) (by decide) ?_
    refine G_aload_n (q := 56) cx dX7_told_55 rfl rfl ?_
    refine G_getr (q := 59) (g := 5) (i' := 0) cx dX7_told_56 rfl cf_7 fl_RX7_23 (Nat.le_of_ble_eq_true rfl) rfl rfl (Nat.le_of_ble_eq_true rfl) ?_
    refine G_getr (q := 62) (g := 2) (i' := 0) cx dX7_told_59 rfl cf_5 fl_RX7_112 (Nat.le_of_ble_eq_true rfl) rfl rfl (Nat.le_of_ble_eq_true rfl) ?_
    refine G_geti (q := 65) cx dX7_told_62 rfl cf_2 fl_RX7_148 (Nat.le_of_ble_eq_true rfl) rfl (Nat.le_of_ble_eq_true rfl) ?_
    exact G_iret cx rfl dX7_told_65 trivial
  refine G_case (fun w3 => ?_) (fun w3 => ?_)
  · refine G_tswIn (t := 66) (off := 65) cx dX7_told_1 w3 (by decide) (by decide) (by decide) (by decide) ?_
    refine G_aload_n (q := 67) cx dX7_told_66 rfl rfl ?_
    refine G_getr (q := 70) (g := 5) (i' := 0) cx dX7_told_67 rfl cf_7 fl_RX7_23 (Nat.le_of_ble_eq_true rfl) rfl rfl (Nat.le_of_ble_eq_true rfl) ?_
    refine G_getr (q := 73) (g := 2) (i' := 0) cx dX7_told_70 rfl cf_5 fl_RX7_112 (Nat.le_of_ble_eq_true rfl) rfl rfl (Nat.le_of_ble_eq_true rfl) ?_
    refine G_geti (q := 76) cx dX7_told_73 rfl cf_2 fl_RX7_115 (Nat.le_of_ble_eq_true rfl) rfl (Nat.le_of_ble_eq_true rfl) ?_
    exact G_iret cx rfl dX7_told_76 trivial
  refine G_case (fun w4 => ?_) (fun w4 => ?_)
  · refine G_tswIn (t := 77) (off := 76) cx dX7_told_1 w4 (by decide) (by decide) (by decide) (by decide) ?_
    refine G_aload_n (q := 78) cx dX7_told_77 rfl rfl ?_
    refine G_getr (q := 81) (g := 5) (i' := 0) cx dX7_told_78 rfl cf_7 fl_RX7_23 (Nat.le_of_ble_eq_true rfl) rfl rfl (Nat.le_of_ble_eq_true rfl) ?_
    refine G_geti (q := 84) cx dX7_told_81 rfl cf_5 fl_RX7_149 (Nat.le_of_ble_eq_true rfl) rfl (Nat.le_of_ble_eq_true rfl) ?_
    exact G_iret cx rfl dX7_told_84 trivial
  refine G_case (fun w5 => ?_) (fun w5 => ?_)
  · refine G_tswIn (t := 85) (off := 84) cx dX7_told_1 w5 (by decide) (by decide) (by decide) (by decide) ?_
    refine G_aload_n (q := 86) cx dX7_told_85 rfl rfl ?_
    refine G_getr (q := 89) (g := 5) (i' := 0) cx dX7_told_86 rfl cf_7 fl_RX7_23 (Nat.le_of_ble_eq_true rfl) rfl rfl (Nat.le_of_ble_eq_true rfl) ?_
    refine G_geti (q := 92) cx dX7_told_89 rfl cf_5 fl_RX7_145 (Nat.le_of_ble_eq_true rfl) rfl (Nat.le_of_ble_eq_true rfl) ?_
    exact G_iret cx rfl dX7_told_92 trivial
  refine G_case (fun w6 => ?_) (fun w6 => ?_)
  · refine G_tswIn (t := 93) (off := 92) cx dX7_told_1 w6 (by decide) (by decide) (by decide) (by decide) ?_
    refine G_aload_n (q := 94) cx dX7_told_93 rfl rfl ?_
    refine G_getr (q := 97) (g := 5) (i' := 0) cx dX7_told_94 rfl cf_7 fl_RX7_23 (Nat.le_of_ble_eq_true rfl) rfl rfl (Nat.le_of_ble_eq_true rfl) ?_
    refine G_geta (q := 100) cx dX7_told_97 rfl cf_5 fl_RX7_109 (Nat.le_of_ble_eq_true rfl) rfl (Nat.le_of_ble_eq_true rfl) (fun e8 => ?_) (fun p7 e9 h_p7 => ?_)
    · exact G_none
    · refine G_geti (q := 103) cx dX7_told_100 rfl cf_0 fl_RX7_152 (Nat.le_of_ble_eq_true rfl) rfl h_p7 ?_
      exact G_iret cx rfl dX7_told_103 trivial
  refine G_case (fun w10 => ?_) (fun w10 => ?_)
  · refine G_tswIn (t := 104) (off := 103) cx dX7_told_1 w10 (by decide) (by decide) (by decide) (by decide) ?_
    refine G_aload_n (q := 105) cx dX7_told_104 rfl rfl ?_
    refine G_getr (q := 108) (g := 5) (i' := 0) cx dX7_told_105 rfl cf_7 fl_RX7_23 (Nat.le_of_ble_eq_true rfl) rfl rfl (Nat.le_of_ble_eq_true rfl) ?_
    refine G_geta (q := 111) cx dX7_told_108 rfl cf_5 fl_RX7_109 (Nat.le_of_ble_eq_true rfl) rfl (Nat.le_of_ble_eq_true rfl) (fun e12 => ?_) (fun p11 e13 h_p11 => ?_)
    · exact G_none
    · refine G_geti (q := 114) cx dX7_told_111 rfl cf_0 fl_RX7_155 (Nat.le_of_ble_eq_true rfl) rfl h_p11 ?_
      exact G_iret cx rfl dX7_told_114 trivial
  have hz1_0 := lv_neT w1 (show (0 : Int32).toInt = 0 by decide)
  have hz1_1 := lv_neT w2 (show (1 : Int32).toInt = 1 by decide)
  have hz1_2 := lv_neT w3 (show (2 : Int32).toInt = 2 by decide)
  have hz1_3 := lv_neT w4 (show (3 : Int32).toInt = 3 by decide)
  have hz1_4 := lv_neT w5 (show (4 : Int32).toInt = 4 by decide)
  have hz1_5 := lv_neT w6 (show (5 : Int32).toInt = 5 by decide)
  have hz1_6 := lv_neT w10 (show (6 : Int32).toInt = 6 by decide)
  refine G_tswOut (t := 115) cx dX7_told_1 (by omega) (by decide) ?_
  refine G_iconst (q := 116) (v := (-1 : Int32)) cx dX7_told_115 rfl (by decide) ?_
  exact G_iret cx rfl dX7_told_116 trivial
def F_X7_enter (S : St) (a1 : Int32) : Option (Int32 × St) :=
  bnd (F_X7_isLift S a1) (fun r1 S2 =>
  if r1 = 0 then (some ((-1001 : Int32), S2))
  else (if 0 ≤ a1 ∧ a1.toNatClampNeg < 6 then (if (gI S2 3 (6 * 0 + a1.toNatClampNeg) 4) = (gI S2 2 0 0) then ((gR (sI S2 5 0 6 a1) 5 0 8).elim none
  (fun p9 => bnd (F_X3_climb (sI S2 5 0 6 a1) (6 * 0 + a1.toNatClampNeg) p9 (gI (sI S2 5 0 6 a1) 2 0 1) (gI (sI S2 5 0 6 a1) 2 0 2)) (fun r12 S13 =>
  some (r12, S13))))
  else (some ((-1002 : Int32), S2)))
  else none))
set_option maxRecDepth 10000 in
theorem c_X7_enter (l : Launch) {D : va_G} {cy : Nat → ClassId} {ad : Nat → Nat → Nat} {k : Nat} (hJ : wJ ad (nX k)) (S : St) (a1 : Int32) : CT l yX7_enter cX7_enter 3 (some .int) 4 D cy ad (nX k) toI okT [.ref (ad 7 0), .int a1] S (F_X7_enter S a1) := by
  refine CT.of RX7 (by decide) rfl hJ (Nat.le_of_ble_eq_true rfl) rfl ?_
  intro p e s m below meth c cx
  unfold F_X7_enter
  refine G_aload_n (q := 1) cx dX7_enter_0 rfl rfl ?_
  refine G_iload_n (q := 2) cx dX7_enter_1 rfl rfl ?_
  refine G_callV (q := 5) (d' := 0) (f := 7) (i := 0) (As := [.int a1]) (rest := []) (stk := fun r1 => [.int r1]) cx dX7_enter_2 rfl cf_7 (Nat.le_of_ble_eq_true rfl) ml_RX7_94 rfl rfl (Nat.le_of_ble_eq_true rfl) (Nat.le_of_ble_eq_true rfl) (Nat.le_of_ble_eq_true rfl) (c_X7_isLift l hJ _ a1) (fun _ => rfl) (fun r1 S2 h3 o4 => ?_)
  refine G_if_ne (q := 8) (t := 12) cx dX7_enter_5 rfl (by decide) (fun c5 => ?_) (fun c5 => ?_)
  · refine G_aload_n (q := 13) cx dX7_enter_12 rfl rfl ?_
    refine G_getr (q := 16) (g := 5) (i' := 0) cx dX7_enter_13 rfl cf_7 fl_RX7_23 (Nat.le_of_ble_eq_true rfl) rfl rfl (Nat.le_of_ble_eq_true rfl) ?_
    refine G_getr (q := 19) (g := 12) (i' := 0) cx dX7_enter_16 rfl cf_5 fl_RX7_84 (Nat.le_of_ble_eq_true rfl) rfl rfl (Nat.le_of_ble_eq_true rfl) ?_
    refine G_iload_n (q := 20) cx dX7_enter_19 rfl rfl ?_
    refine G_aaldL (q := 21) cx dX7_enter_20 rfl (Nat.le_of_ble_eq_true rfl) (fun g6 g7 => ?_)
    refine G_astore_n (q := 22) (ls' := [(2, .ref (ad 3 (6 * 0 + a1.toNatClampNeg))), (0, .ref (ad 7 0)), (1, .int a1)]) cx dX7_enter_21 rfl rfl (Nat.le_of_ble_eq_true rfl) rfl ?_
    refine G_aload_n (q := 23) cx dX7_enter_22 rfl rfl ?_
    refine G_geti (q := 26) cx dX7_enter_23 rfl cf_3 fl_RX7_103 (Nat.le_of_ble_eq_true rfl) rfl (by show 6 * 0 + a1.toNatClampNeg < 12; omega) ?_
    refine G_aload_n (q := 27) cx dX7_enter_26 rfl rfl ?_
    refine G_getr (q := 30) (g := 5) (i' := 0) cx dX7_enter_27 rfl cf_7 fl_RX7_23 (Nat.le_of_ble_eq_true rfl) rfl rfl (Nat.le_of_ble_eq_true rfl) ?_
    refine G_getr (q := 33) (g := 2) (i' := 0) cx dX7_enter_30 rfl cf_5 fl_RX7_112 (Nat.le_of_ble_eq_true rfl) rfl rfl (Nat.le_of_ble_eq_true rfl) ?_
    refine G_geti (q := 36) cx dX7_enter_33 rfl cf_2 fl_RX7_148 (Nat.le_of_ble_eq_true rfl) rfl (Nat.le_of_ble_eq_true rfl) ?_
    refine G_icmp_eq (q := 39) (t := 43) cx dX7_enter_36 rfl (by decide) (fun c8 => ?_) (fun c8 => ?_)
    · refine G_aload_n (q := 44) cx dX7_enter_43 rfl rfl ?_
      refine G_getr (q := 47) (g := 5) (i' := 0) cx dX7_enter_44 rfl cf_7 fl_RX7_23 (Nat.le_of_ble_eq_true rfl) rfl rfl (Nat.le_of_ble_eq_true rfl) ?_
      refine G_iload_n (q := 48) cx dX7_enter_47 rfl rfl ?_
      refine G_puti (q := 51) cx dX7_enter_48 rfl cf_5 fl_RX7_149 (Nat.le_of_ble_eq_true rfl) rfl rfl rfl rfl rfl (Nat.le_of_ble_eq_true rfl) ?_
      refine G_aload_n (q := 52) cx dX7_enter_51 rfl rfl ?_
      refine G_aload_n (q := 53) cx dX7_enter_52 rfl rfl ?_
      refine G_getr (q := 56) (g := 5) (i' := 0) cx dX7_enter_53 rfl cf_7 fl_RX7_23 (Nat.le_of_ble_eq_true rfl) rfl rfl (Nat.le_of_ble_eq_true rfl) ?_
      refine G_geta (q := 59) cx dX7_enter_56 rfl cf_5 fl_RX7_109 (Nat.le_of_ble_eq_true rfl) rfl (Nat.le_of_ble_eq_true rfl) (fun e10 => ?_) (fun p9 e11 h_p9 => ?_)
      · exact G_none
      refine G_aload_n (q := 60) cx dX7_enter_59 rfl rfl ?_
      refine G_getr (q := 63) (g := 5) (i' := 0) cx dX7_enter_60 rfl cf_7 fl_RX7_23 (Nat.le_of_ble_eq_true rfl) rfl rfl (Nat.le_of_ble_eq_true rfl) ?_
      refine G_getr (q := 66) (g := 2) (i' := 0) cx dX7_enter_63 rfl cf_5 fl_RX7_112 (Nat.le_of_ble_eq_true rfl) rfl rfl (Nat.le_of_ble_eq_true rfl) ?_
      refine G_geti (q := 69) cx dX7_enter_66 rfl cf_2 fl_RX7_115 (Nat.le_of_ble_eq_true rfl) rfl (Nat.le_of_ble_eq_true rfl) ?_
      refine G_aload_n (q := 70) cx dX7_enter_69 rfl rfl ?_
      refine G_getr (q := 73) (g := 5) (i' := 0) cx dX7_enter_70 rfl cf_7 fl_RX7_23 (Nat.le_of_ble_eq_true rfl) rfl rfl (Nat.le_of_ble_eq_true rfl) ?_
      refine G_getr (q := 76) (g := 2) (i' := 0) cx dX7_enter_73 rfl cf_5 fl_RX7_112 (Nat.le_of_ble_eq_true rfl) rfl rfl (Nat.le_of_ble_eq_true rfl) ?_
      refine G_geti (q := 79) cx dX7_enter_76 rfl cf_2 fl_RX7_118 (Nat.le_of_ble_eq_true rfl) rfl (Nat.le_of_ble_eq_true rfl) ?_
      refine G_callV (q := 82) (d' := 3) (f := 3) (i := (6 * 0 + a1.toNatClampNeg)) (As := [.ref (ad 0 p9), .int (gI (sI S2 5 0 6 a1) 2 0 1), .int (gI (sI S2 5 0 6 a1) 2 0 2)]) (rest := []) (stk := fun r12 => [.int r12]) cx dX7_enter_79 rfl cf_3 (by show 6 * 0 + a1.toNatClampNeg < 12; omega) ml_RX7_125 rfl rfl (Nat.le_of_ble_eq_true rfl) (Nat.le_of_ble_eq_true rfl) (Nat.le_of_ble_eq_true rfl) (c_X3_climb l hJ _ (6 * 0 + a1.toNatClampNeg) p9 (gI (sI S2 5 0 6 a1) 2 0 1) (gI (sI S2 5 0 6 a1) 2 0 2) (by show 6 * 0 + a1.toNatClampNeg < 12; omega) h_p9) (fun _ => rfl) (fun r12 S13 h14 o15 => ?_)
      exact G_iret cx rfl dX7_enter_82 trivial
    · refine G_sipush (q := 42) (v := (-1002 : Int32)) cx dX7_enter_39 rfl (by decide) ?_
      exact G_iret cx rfl dX7_enter_42 trivial
  · refine G_sipush (q := 11) (v := (-1001 : Int32)) cx dX7_enter_8 rfl (by decide) ?_
    exact G_iret cx rfl dX7_enter_11 trivial
def F_X7_turn (S : St) (a1 : Int32) : Option (Int32 × St) :=
  bnd (F_X7_isWithin S a1 (0 : Int32) (60 : Int32)) (fun r1 S2 =>
  if r1 = 0 then (some ((-2 : Int32), S2))
  else (bnd (F_X7_isLift S2 (gI S2 5 0 6)) (fun r6 S7 =>
  if r6 = 0 then (some ((-3 : Int32), S7))
  else (if ((gI S7 2 0 2) + a1) ≤ (9999 : Int32) then (if 0 ≤ (gI S7 5 0 6) ∧ (gI S7 5 0 6).toNatClampNeg < 6 then ((gR S7 5 0 8).elim none
  (fun p14 => bnd (F_X2_circles S7 0 (6 * 0 + (gI S7 5 0 6).toNatClampNeg) p14 a1) (fun r17 S18 =>
  some (gI S18 2 0 1, S18))))
  else none)
  else (some ((-3 : Int32), S7))))))
set_option maxRecDepth 10000 in
theorem c_X7_turn (l : Launch) {D : va_G} {cy : Nat → ClassId} {ad : Nat → Nat → Nat} {k : Nat} (hJ : wJ ad (nX k)) (S : St) (a1 : Int32) : CT l yX7_turn cX7_turn 2 (some .int) 5 D cy ad (nX k) toI okT [.ref (ad 7 0), .int a1] S (F_X7_turn S a1) := by
  refine CT.of RX7 (by decide) rfl hJ (Nat.le_of_ble_eq_true rfl) rfl ?_
  intro p e s m below meth c cx
  unfold F_X7_turn
  refine G_iload_n (q := 1) cx dX7_turn_0 rfl rfl ?_
  refine G_iconst (q := 2) (v := (0 : Int32)) cx dX7_turn_1 rfl (by decide) ?_
  refine G_bipush (q := 4) (v := (60 : Int32)) cx dX7_turn_2 rfl (by decide) ?_
  refine G_callS (q := 7) (d' := 0) (As := [.int a1, .int (0 : Int32), .int (60 : Int32)]) (rest := []) (stk := fun r1 => [.int r1]) cx dX7_turn_4 rfl ml_RX7_74 rfl rfl (Nat.le_of_ble_eq_true rfl) (Nat.le_of_ble_eq_true rfl) (Nat.le_of_ble_eq_true rfl) (c_X7_isWithin l hJ _ a1 (0 : Int32) (60 : Int32)) (fun _ => rfl) (fun r1 S2 h3 o4 => ?_)
  refine G_if_ne (q := 10) (t := 13) cx dX7_turn_7 rfl (by decide) (fun c5 => ?_) (fun c5 => ?_)
  · refine G_aload_n (q := 14) cx dX7_turn_13 rfl rfl ?_
    refine G_aload_n (q := 15) cx dX7_turn_14 rfl rfl ?_
    refine G_getr (q := 18) (g := 5) (i' := 0) cx dX7_turn_15 rfl cf_7 fl_RX7_23 (Nat.le_of_ble_eq_true rfl) rfl rfl (Nat.le_of_ble_eq_true rfl) ?_
    refine G_geti (q := 21) cx dX7_turn_18 rfl cf_5 fl_RX7_149 (Nat.le_of_ble_eq_true rfl) rfl (Nat.le_of_ble_eq_true rfl) ?_
    refine G_callV (q := 24) (d' := 0) (f := 7) (i := 0) (As := [.int (gI S2 5 0 6)]) (rest := []) (stk := fun r6 => [.int r6]) cx dX7_turn_21 rfl cf_7 (Nat.le_of_ble_eq_true rfl) ml_RX7_94 rfl rfl (Nat.le_of_ble_eq_true rfl) (Nat.le_of_ble_eq_true rfl) (Nat.le_of_ble_eq_true rfl) (c_X7_isLift l hJ _ (gI S2 5 0 6)) (fun _ => rfl) (fun r6 S7 h8 o9 => ?_)
    refine G_if_eq (q := 27) (t := 45) cx dX7_turn_24 rfl (by decide) (fun c10 => ?_) (fun c10 => ?_)
    · refine G_bipush (q := 47) (v := (-3 : Int32)) cx dX7_turn_45 rfl (by decide) ?_
      exact G_iret cx rfl dX7_turn_47 trivial
    refine G_aload_n (q := 28) cx dX7_turn_27 rfl rfl ?_
    refine G_getr (q := 31) (g := 5) (i' := 0) cx dX7_turn_28 rfl cf_7 fl_RX7_23 (Nat.le_of_ble_eq_true rfl) rfl rfl (Nat.le_of_ble_eq_true rfl) ?_
    refine G_getr (q := 34) (g := 2) (i' := 0) cx dX7_turn_31 rfl cf_5 fl_RX7_112 (Nat.le_of_ble_eq_true rfl) rfl rfl (Nat.le_of_ble_eq_true rfl) ?_
    refine G_geti (q := 37) cx dX7_turn_34 rfl cf_2 fl_RX7_118 (Nat.le_of_ble_eq_true rfl) rfl (Nat.le_of_ble_eq_true rfl) ?_
    refine G_iload_n (q := 38) cx dX7_turn_37 rfl rfl ?_
    refine G_iadd (q := 39) cx dX7_turn_38 rfl ?_
    refine G_sipush (q := 42) (v := (9999 : Int32)) cx dX7_turn_39 rfl (by decide) ?_
    refine G_icmp_le (q := 45) (t := 48) cx dX7_turn_42 rfl (by decide) (fun c11 => ?_) (fun c11 => ?_)
    · refine G_aload_n (q := 49) cx dX7_turn_48 rfl rfl ?_
      refine G_getr (q := 52) (g := 5) (i' := 0) cx dX7_turn_49 rfl cf_7 fl_RX7_23 (Nat.le_of_ble_eq_true rfl) rfl rfl (Nat.le_of_ble_eq_true rfl) ?_
      refine G_getr (q := 55) (g := 2) (i' := 0) cx dX7_turn_52 rfl cf_5 fl_RX7_112 (Nat.le_of_ble_eq_true rfl) rfl rfl (Nat.le_of_ble_eq_true rfl) ?_
      refine G_aload_n (q := 56) cx dX7_turn_55 rfl rfl ?_
      refine G_getr (q := 59) (g := 5) (i' := 0) cx dX7_turn_56 rfl cf_7 fl_RX7_23 (Nat.le_of_ble_eq_true rfl) rfl rfl (Nat.le_of_ble_eq_true rfl) ?_
      refine G_getr (q := 62) (g := 12) (i' := 0) cx dX7_turn_59 rfl cf_5 fl_RX7_84 (Nat.le_of_ble_eq_true rfl) rfl rfl (Nat.le_of_ble_eq_true rfl) ?_
      refine G_aload_n (q := 63) cx dX7_turn_62 rfl rfl ?_
      refine G_getr (q := 66) (g := 5) (i' := 0) cx dX7_turn_63 rfl cf_7 fl_RX7_23 (Nat.le_of_ble_eq_true rfl) rfl rfl (Nat.le_of_ble_eq_true rfl) ?_
      refine G_geti (q := 69) cx dX7_turn_66 rfl cf_5 fl_RX7_149 (Nat.le_of_ble_eq_true rfl) rfl (Nat.le_of_ble_eq_true rfl) ?_
      refine G_aaldL (q := 70) cx dX7_turn_69 rfl (Nat.le_of_ble_eq_true rfl) (fun g12 g13 => ?_)
      refine G_aload_n (q := 71) cx dX7_turn_70 rfl rfl ?_
      refine G_getr (q := 74) (g := 5) (i' := 0) cx dX7_turn_71 rfl cf_7 fl_RX7_23 (Nat.le_of_ble_eq_true rfl) rfl rfl (Nat.le_of_ble_eq_true rfl) ?_
      refine G_geta (q := 77) cx dX7_turn_74 rfl cf_5 fl_RX7_109 (Nat.le_of_ble_eq_true rfl) rfl (Nat.le_of_ble_eq_true rfl) (fun e15 => ?_) (fun p14 e16 h_p14 => ?_)
      · exact G_none
      refine G_iload_n (q := 78) cx dX7_turn_77 rfl rfl ?_
      refine G_callV (q := 81) (d' := 4) (f := 2) (i := 0) (As := [.ref (ad 3 (6 * 0 + (gI S7 5 0 6).toNatClampNeg)), .ref (ad 0 p14), .int a1]) (rest := []) (stk := fun _ => []) cx dX7_turn_78 rfl cf_2 (Nat.le_of_ble_eq_true rfl) ml_RX7_158 rfl rfl (Nat.le_of_ble_eq_true rfl) (Nat.le_of_ble_eq_true rfl) (Nat.le_of_ble_eq_true rfl) (c_X2_circles l hJ _ 0 (6 * 0 + (gI S7 5 0 6).toNatClampNeg) p14 a1 (Nat.le_of_ble_eq_true rfl) (by show 6 * 0 + (gI S7 5 0 6).toNatClampNeg < 12; omega) h_p14) (fun _ => rfl) (fun r17 S18 h19 o20 => ?_)
      refine G_aload_n (q := 82) cx dX7_turn_81 rfl rfl ?_
      refine G_getr (q := 85) (g := 5) (i' := 0) cx dX7_turn_82 rfl cf_7 fl_RX7_23 (Nat.le_of_ble_eq_true rfl) rfl rfl (Nat.le_of_ble_eq_true rfl) ?_
      refine G_getr (q := 88) (g := 2) (i' := 0) cx dX7_turn_85 rfl cf_5 fl_RX7_112 (Nat.le_of_ble_eq_true rfl) rfl rfl (Nat.le_of_ble_eq_true rfl) ?_
      refine G_geti (q := 91) cx dX7_turn_88 rfl cf_2 fl_RX7_115 (Nat.le_of_ble_eq_true rfl) rfl (Nat.le_of_ble_eq_true rfl) ?_
      exact G_iret cx rfl dX7_turn_91 trivial
    · refine G_bipush (q := 47) (v := (-3 : Int32)) cx dX7_turn_45 rfl (by decide) ?_
      exact G_iret cx rfl dX7_turn_47 trivial
  · refine G_bipush (q := 12) (v := (-2 : Int32)) cx dX7_turn_10 rfl (by decide) ?_
    exact G_iret cx rfl dX7_turn_12 trivial
def F_X7_isPace (S : St) (a0 : Int32) : Option (Int32 × St) :=
  bnd (F_X7_isWithin S a0 (1 : Int32) (9 : Int32)) (fun r1 S2 =>
  some (r1, S2))
set_option maxRecDepth 10000 in
theorem c_X7_isPace (l : Launch) {D : va_G} {cy : Nat → ClassId} {ad : Nat → Nat → Nat} {k : Nat} (hJ : wJ ad (nX k)) (S : St) (a0 : Int32) : CT l yX7_isPace cX7_isPace 1 (some .boolean) 1 D cy ad (nX k) toI okZ [.int a0] S (F_X7_isPace S a0) := by
  refine CT.of RX7 (by decide) rfl hJ (Nat.le_of_ble_eq_true rfl) rfl ?_
  intro p e s m below meth c cx
  unfold F_X7_isPace
  refine G_iload_n (q := 1) cx dX7_isPace_0 rfl rfl ?_
  refine G_iconst (q := 2) (v := (1 : Int32)) cx dX7_isPace_1 rfl (by decide) ?_
  refine G_bipush (q := 4) (v := (9 : Int32)) cx dX7_isPace_2 rfl (by decide) ?_
  refine G_callS (q := 7) (d' := 0) (As := [.int a0, .int (1 : Int32), .int (9 : Int32)]) (rest := []) (stk := fun r1 => [.int r1]) cx dX7_isPace_4 rfl ml_RX7_74 rfl rfl (Nat.le_of_ble_eq_true rfl) (Nat.le_of_ble_eq_true rfl) (Nat.le_of_ble_eq_true rfl) (c_X7_isWithin l hJ _ a0 (1 : Int32) (9 : Int32)) (fun _ => rfl) (fun r1 S2 h3 o4 => ?_)
  exact G_zret (ty := .boolean) cx rfl dX7_isPace_7 o4 o4
def F_X7_glide (S : St) (a1 : Int32) (a2 : Int32) : Option (Int32 × St) :=
  bnd (F_X7_isMile S a1) (fun r1 S2 =>
  if r1 = 0 then (some ((-2 : Int32), S2))
  else (bnd (F_X7_isPace S2 a2) (fun r6 S7 =>
  if r6 = 0 then (some ((-2 : Int32), S7))
  else (bnd (F_X2_copyFrom S7 2 0) (fun r11 S12 =>
  bnd (F_X2_glides S12 2 a1 a2) (fun r15 S16 =>
  if r15 = 0 then (some ((-3 : Int32), S16))
  else (if (gI S16 2 2 2) ≤ (9999 : Int32) then (bnd (F_X2_copyFrom S16 0 2) (fun r21 S22 =>
  some (gI (sI S22 5 0 6 (-5 : Int32)) 2 0 1, (sI S22 5 0 6 (-5 : Int32)))))
  else (some ((-3 : Int32), S16)))))))))
set_option maxRecDepth 10000 in
theorem c_X7_glide (l : Launch) {D : va_G} {cy : Nat → ClassId} {ad : Nat → Nat → Nat} {k : Nat} (hJ : wJ ad (nX k)) (S : St) (a1 : Int32) (a2 : Int32) : CT l yX7_glide cX7_glide 3 (some .int) 2 D cy ad (nX k) toI okT [.ref (ad 7 0), .int a1, .int a2] S (F_X7_glide S a1 a2) := by
  refine CT.of RX7 (by decide) rfl hJ (Nat.le_of_ble_eq_true rfl) rfl ?_
  intro p e s m below meth c cx
  unfold F_X7_glide
  refine G_iload_n (q := 1) cx dX7_glide_0 rfl rfl ?_
  refine G_callS (q := 4) (d' := 1) (As := [.int a1]) (rest := []) (stk := fun r1 => [.int r1]) cx dX7_glide_1 rfl ml_RX7_78 rfl rfl (Nat.le_of_ble_eq_true rfl) (Nat.le_of_ble_eq_true rfl) (Nat.le_of_ble_eq_true rfl) (c_X7_isMile l hJ _ a1) (fun _ => rfl) (fun r1 S2 h3 o4 => ?_)
  refine G_if_eq (q := 7) (t := 14) cx dX7_glide_4 rfl (by decide) (fun c5 => ?_) (fun c5 => ?_)
  · refine G_bipush (q := 16) (v := (-2 : Int32)) cx dX7_glide_14 rfl (by decide) ?_
    exact G_iret cx rfl dX7_glide_16 trivial
  refine G_iload_n (q := 8) cx dX7_glide_7 rfl rfl ?_
  refine G_callS (q := 11) (d' := 1) (As := [.int a2]) (rest := []) (stk := fun r6 => [.int r6]) cx dX7_glide_8 rfl ml_RX7_162 rfl rfl (Nat.le_of_ble_eq_true rfl) (Nat.le_of_ble_eq_true rfl) (Nat.le_of_ble_eq_true rfl) (c_X7_isPace l hJ _ a2) (fun _ => rfl) (fun r6 S7 h8 o9 => ?_)
  refine G_if_ne (q := 14) (t := 17) cx dX7_glide_11 rfl (by decide) (fun c10 => ?_) (fun c10 => ?_)
  · refine G_aload_n (q := 18) cx dX7_glide_17 rfl rfl ?_
    refine G_getr (q := 21) (g := 2) (i' := 2) cx dX7_glide_18 rfl cf_7 fl_RX7_33 (Nat.le_of_ble_eq_true rfl) rfl rfl (Nat.le_of_ble_eq_true rfl) ?_
    refine G_aload_n (q := 22) cx dX7_glide_21 rfl rfl ?_
    refine G_getr (q := 25) (g := 5) (i' := 0) cx dX7_glide_22 rfl cf_7 fl_RX7_23 (Nat.le_of_ble_eq_true rfl) rfl rfl (Nat.le_of_ble_eq_true rfl) ?_
    refine G_getr (q := 28) (g := 2) (i' := 0) cx dX7_glide_25 rfl cf_5 fl_RX7_112 (Nat.le_of_ble_eq_true rfl) rfl rfl (Nat.le_of_ble_eq_true rfl) ?_
    refine G_callV (q := 31) (d' := 0) (f := 2) (i := 2) (As := [.ref (ad 2 0)]) (rest := []) (stk := fun _ => []) cx dX7_glide_28 rfl cf_2 (Nat.le_of_ble_eq_true rfl) ml_RX7_165 rfl rfl (Nat.le_of_ble_eq_true rfl) (Nat.le_of_ble_eq_true rfl) (Nat.le_of_ble_eq_true rfl) (c_X2_copyFrom l hJ _ 2 0 (Nat.le_of_ble_eq_true rfl) (Nat.le_of_ble_eq_true rfl)) (fun _ => rfl) (fun r11 S12 h13 o14 => ?_)
    refine G_aload_n (q := 32) cx dX7_glide_31 rfl rfl ?_
    refine G_getr (q := 35) (g := 2) (i' := 2) cx dX7_glide_32 rfl cf_7 fl_RX7_33 (Nat.le_of_ble_eq_true rfl) rfl rfl (Nat.le_of_ble_eq_true rfl) ?_
    refine G_iload_n (q := 36) cx dX7_glide_35 rfl rfl ?_
    refine G_iload_n (q := 37) cx dX7_glide_36 rfl rfl ?_
    refine G_callV (q := 40) (d' := 1) (f := 2) (i := 2) (As := [.int a1, .int a2]) (rest := []) (stk := fun r15 => [.int r15]) cx dX7_glide_37 rfl cf_2 (Nat.le_of_ble_eq_true rfl) ml_RX7_169 rfl rfl (Nat.le_of_ble_eq_true rfl) (Nat.le_of_ble_eq_true rfl) (Nat.le_of_ble_eq_true rfl) (c_X2_glides l hJ _ 2 a1 a2 (Nat.le_of_ble_eq_true rfl)) (fun _ => rfl) (fun r15 S16 h17 o18 => ?_)
    refine G_if_eq (q := 43) (t := 56) cx dX7_glide_40 rfl (by decide) (fun c19 => ?_) (fun c19 => ?_)
    · refine G_bipush (q := 58) (v := (-3 : Int32)) cx dX7_glide_56 rfl (by decide) ?_
      exact G_iret cx rfl dX7_glide_58 trivial
    refine G_aload_n (q := 44) cx dX7_glide_43 rfl rfl ?_
    refine G_getr (q := 47) (g := 2) (i' := 2) cx dX7_glide_44 rfl cf_7 fl_RX7_33 (Nat.le_of_ble_eq_true rfl) rfl rfl (Nat.le_of_ble_eq_true rfl) ?_
    refine G_geti (q := 50) cx dX7_glide_47 rfl cf_2 fl_RX7_118 (Nat.le_of_ble_eq_true rfl) rfl (Nat.le_of_ble_eq_true rfl) ?_
    refine G_sipush (q := 53) (v := (9999 : Int32)) cx dX7_glide_50 rfl (by decide) ?_
    refine G_icmp_le (q := 56) (t := 59) cx dX7_glide_53 rfl (by decide) (fun c20 => ?_) (fun c20 => ?_)
    · refine G_aload_n (q := 60) cx dX7_glide_59 rfl rfl ?_
      refine G_getr (q := 63) (g := 5) (i' := 0) cx dX7_glide_60 rfl cf_7 fl_RX7_23 (Nat.le_of_ble_eq_true rfl) rfl rfl (Nat.le_of_ble_eq_true rfl) ?_
      refine G_getr (q := 66) (g := 2) (i' := 0) cx dX7_glide_63 rfl cf_5 fl_RX7_112 (Nat.le_of_ble_eq_true rfl) rfl rfl (Nat.le_of_ble_eq_true rfl) ?_
      refine G_aload_n (q := 67) cx dX7_glide_66 rfl rfl ?_
      refine G_getr (q := 70) (g := 2) (i' := 2) cx dX7_glide_67 rfl cf_7 fl_RX7_33 (Nat.le_of_ble_eq_true rfl) rfl rfl (Nat.le_of_ble_eq_true rfl) ?_
      refine G_callV (q := 73) (d' := 0) (f := 2) (i := 0) (As := [.ref (ad 2 2)]) (rest := []) (stk := fun _ => []) cx dX7_glide_70 rfl cf_2 (Nat.le_of_ble_eq_true rfl) ml_RX7_165 rfl rfl (Nat.le_of_ble_eq_true rfl) (Nat.le_of_ble_eq_true rfl) (Nat.le_of_ble_eq_true rfl) (c_X2_copyFrom l hJ _ 0 2 (Nat.le_of_ble_eq_true rfl) (Nat.le_of_ble_eq_true rfl)) (fun _ => rfl) (fun r21 S22 h23 o24 => ?_)
      refine G_aload_n (q := 74) cx dX7_glide_73 rfl rfl ?_
      refine G_getr (q := 77) (g := 5) (i' := 0) cx dX7_glide_74 rfl cf_7 fl_RX7_23 (Nat.le_of_ble_eq_true rfl) rfl rfl (Nat.le_of_ble_eq_true rfl) ?_
      refine G_bipush (q := 79) (v := (-5 : Int32)) cx dX7_glide_77 rfl (by decide) ?_
      refine G_puti (q := 82) cx dX7_glide_79 rfl cf_5 fl_RX7_149 (Nat.le_of_ble_eq_true rfl) rfl rfl rfl rfl rfl (Nat.le_of_ble_eq_true rfl) ?_
      refine G_aload_n (q := 83) cx dX7_glide_82 rfl rfl ?_
      refine G_getr (q := 86) (g := 5) (i' := 0) cx dX7_glide_83 rfl cf_7 fl_RX7_23 (Nat.le_of_ble_eq_true rfl) rfl rfl (Nat.le_of_ble_eq_true rfl) ?_
      refine G_getr (q := 89) (g := 2) (i' := 0) cx dX7_glide_86 rfl cf_5 fl_RX7_112 (Nat.le_of_ble_eq_true rfl) rfl rfl (Nat.le_of_ble_eq_true rfl) ?_
      refine G_geti (q := 92) cx dX7_glide_89 rfl cf_2 fl_RX7_115 (Nat.le_of_ble_eq_true rfl) rfl (Nat.le_of_ble_eq_true rfl) ?_
      exact G_iret cx rfl dX7_glide_92 trivial
    · refine G_bipush (q := 58) (v := (-3 : Int32)) cx dX7_glide_56 rfl (by decide) ?_
      exact G_iret cx rfl dX7_glide_58 trivial
  · refine G_bipush (q := 16) (v := (-2 : Int32)) cx dX7_glide_14 rfl (by decide) ?_
    exact G_iret cx rfl dX7_glide_16 trivial
def F_X7_heightBehind (S : St) (a1 : Int32) (a2 : Int32) : Option (Int32 × St) :=
  bnd (F_X2_copyFrom S 2 0) (fun r1 S2 =>
  if 0 ≤ a1 ∧ a1.toNatClampNeg < 6 then ((gR S2 5 0 8).elim none
  (fun p7 => bnd (F_X2_circles S2 2 (6 * 0 + a1.toNatClampNeg) p7 a2) (fun r10 S11 =>
  some (gI S11 2 2 1, S11))))
  else none)
set_option maxRecDepth 10000 in
theorem c_X7_heightBehind (l : Launch) {D : va_G} {cy : Nat → ClassId} {ad : Nat → Nat → Nat} {k : Nat} (hJ : wJ ad (nX k)) (S : St) (a1 : Int32) (a2 : Int32) : CT l yX7_heightBehind cX7_heightBehind 3 (some .int) 5 D cy ad (nX k) toI okT [.ref (ad 7 0), .int a1, .int a2] S (F_X7_heightBehind S a1 a2) := by
  refine CT.of RX7 (by decide) rfl hJ (Nat.le_of_ble_eq_true rfl) rfl ?_
  intro p e s m below meth c cx
  unfold F_X7_heightBehind
  refine G_aload_n (q := 1) cx dX7_heightBehind_0 rfl rfl ?_
  refine G_getr (q := 4) (g := 2) (i' := 2) cx dX7_heightBehind_1 rfl cf_7 fl_RX7_33 (Nat.le_of_ble_eq_true rfl) rfl rfl (Nat.le_of_ble_eq_true rfl) ?_
  refine G_aload_n (q := 5) cx dX7_heightBehind_4 rfl rfl ?_
  refine G_getr (q := 8) (g := 5) (i' := 0) cx dX7_heightBehind_5 rfl cf_7 fl_RX7_23 (Nat.le_of_ble_eq_true rfl) rfl rfl (Nat.le_of_ble_eq_true rfl) ?_
  refine G_getr (q := 11) (g := 2) (i' := 0) cx dX7_heightBehind_8 rfl cf_5 fl_RX7_112 (Nat.le_of_ble_eq_true rfl) rfl rfl (Nat.le_of_ble_eq_true rfl) ?_
  refine G_callV (q := 14) (d' := 0) (f := 2) (i := 2) (As := [.ref (ad 2 0)]) (rest := []) (stk := fun _ => []) cx dX7_heightBehind_11 rfl cf_2 (Nat.le_of_ble_eq_true rfl) ml_RX7_165 rfl rfl (Nat.le_of_ble_eq_true rfl) (Nat.le_of_ble_eq_true rfl) (Nat.le_of_ble_eq_true rfl) (c_X2_copyFrom l hJ _ 2 0 (Nat.le_of_ble_eq_true rfl) (Nat.le_of_ble_eq_true rfl)) (fun _ => rfl) (fun r1 S2 h3 o4 => ?_)
  refine G_aload_n (q := 15) cx dX7_heightBehind_14 rfl rfl ?_
  refine G_getr (q := 18) (g := 2) (i' := 2) cx dX7_heightBehind_15 rfl cf_7 fl_RX7_33 (Nat.le_of_ble_eq_true rfl) rfl rfl (Nat.le_of_ble_eq_true rfl) ?_
  refine G_aload_n (q := 19) cx dX7_heightBehind_18 rfl rfl ?_
  refine G_getr (q := 22) (g := 5) (i' := 0) cx dX7_heightBehind_19 rfl cf_7 fl_RX7_23 (Nat.le_of_ble_eq_true rfl) rfl rfl (Nat.le_of_ble_eq_true rfl) ?_
  refine G_getr (q := 25) (g := 12) (i' := 0) cx dX7_heightBehind_22 rfl cf_5 fl_RX7_84 (Nat.le_of_ble_eq_true rfl) rfl rfl (Nat.le_of_ble_eq_true rfl) ?_
  refine G_iload_n (q := 26) cx dX7_heightBehind_25 rfl rfl ?_
  refine G_aaldL (q := 27) cx dX7_heightBehind_26 rfl (Nat.le_of_ble_eq_true rfl) (fun g5 g6 => ?_)
  refine G_aload_n (q := 28) cx dX7_heightBehind_27 rfl rfl ?_
  refine G_getr (q := 31) (g := 5) (i' := 0) cx dX7_heightBehind_28 rfl cf_7 fl_RX7_23 (Nat.le_of_ble_eq_true rfl) rfl rfl (Nat.le_of_ble_eq_true rfl) ?_
  refine G_geta (q := 34) cx dX7_heightBehind_31 rfl cf_5 fl_RX7_109 (Nat.le_of_ble_eq_true rfl) rfl (Nat.le_of_ble_eq_true rfl) (fun e8 => ?_) (fun p7 e9 h_p7 => ?_)
  · exact G_none
  refine G_iload_n (q := 35) cx dX7_heightBehind_34 rfl rfl ?_
  refine G_callV (q := 38) (d' := 4) (f := 2) (i := 2) (As := [.ref (ad 3 (6 * 0 + a1.toNatClampNeg)), .ref (ad 0 p7), .int a2]) (rest := []) (stk := fun _ => []) cx dX7_heightBehind_35 rfl cf_2 (Nat.le_of_ble_eq_true rfl) ml_RX7_158 rfl rfl (Nat.le_of_ble_eq_true rfl) (Nat.le_of_ble_eq_true rfl) (Nat.le_of_ble_eq_true rfl) (c_X2_circles l hJ _ 2 (6 * 0 + a1.toNatClampNeg) p7 a2 (Nat.le_of_ble_eq_true rfl) (by show 6 * 0 + a1.toNatClampNeg < 12; omega) h_p7) (fun _ => rfl) (fun r10 S11 h12 o13 => ?_)
  refine G_aload_n (q := 39) cx dX7_heightBehind_38 rfl rfl ?_
  refine G_getr (q := 42) (g := 2) (i' := 2) cx dX7_heightBehind_39 rfl cf_7 fl_RX7_33 (Nat.le_of_ble_eq_true rfl) rfl rfl (Nat.le_of_ble_eq_true rfl) ?_
  refine G_geti (q := 45) cx dX7_heightBehind_42 rfl cf_2 fl_RX7_115 (Nat.le_of_ble_eq_true rfl) rfl (Nat.le_of_ble_eq_true rfl) ?_
  exact G_iret cx rfl dX7_heightBehind_45 trivial
def F_X7_up (S : St) (a1 : Int32) (a2 : Int32) : Option (Int32 × St) :=
  bnd (F_X7_isLift S a1) (fun r1 S2 =>
  if r1 = 0 then (some ((-1 : Int32), S2))
  else (bnd (F_X7_isWithin S2 a2 (0 : Int32) (60 : Int32)) (fun r6 S7 =>
  if r6 = 0 then (some ((-2 : Int32), S7))
  else (bnd (F_X7_heightBehind S7 a1 a2) (fun r11 S12 =>
  some (r11, S12))))))
set_option maxRecDepth 10000 in
theorem c_X7_up (l : Launch) {D : va_G} {cy : Nat → ClassId} {ad : Nat → Nat → Nat} {k : Nat} (hJ : wJ ad (nX k)) (S : St) (a1 : Int32) (a2 : Int32) : CT l yX7_up cX7_up 3 (some .int) 6 D cy ad (nX k) toI okT [.ref (ad 7 0), .int a1, .int a2] S (F_X7_up S a1 a2) := by
  refine CT.of RX7 (by decide) rfl hJ (Nat.le_of_ble_eq_true rfl) rfl ?_
  intro p e s m below meth c cx
  unfold F_X7_up
  refine G_aload_n (q := 1) cx dX7_up_0 rfl rfl ?_
  refine G_iload_n (q := 2) cx dX7_up_1 rfl rfl ?_
  refine G_callV (q := 5) (d' := 0) (f := 7) (i := 0) (As := [.int a1]) (rest := []) (stk := fun r1 => [.int r1]) cx dX7_up_2 rfl cf_7 (Nat.le_of_ble_eq_true rfl) ml_RX7_94 rfl rfl (Nat.le_of_ble_eq_true rfl) (Nat.le_of_ble_eq_true rfl) (Nat.le_of_ble_eq_true rfl) (c_X7_isLift l hJ _ a1) (fun _ => rfl) (fun r1 S2 h3 o4 => ?_)
  refine G_if_ne (q := 8) (t := 10) cx dX7_up_5 rfl (by decide) (fun c5 => ?_) (fun c5 => ?_)
  · refine G_iload_n (q := 11) cx dX7_up_10 rfl rfl ?_
    refine G_iconst (q := 12) (v := (0 : Int32)) cx dX7_up_11 rfl (by decide) ?_
    refine G_bipush (q := 14) (v := (60 : Int32)) cx dX7_up_12 rfl (by decide) ?_
    refine G_callS (q := 17) (d' := 0) (As := [.int a2, .int (0 : Int32), .int (60 : Int32)]) (rest := []) (stk := fun r6 => [.int r6]) cx dX7_up_14 rfl ml_RX7_74 rfl rfl (Nat.le_of_ble_eq_true rfl) (Nat.le_of_ble_eq_true rfl) (Nat.le_of_ble_eq_true rfl) (c_X7_isWithin l hJ _ a2 (0 : Int32) (60 : Int32)) (fun _ => rfl) (fun r6 S7 h8 o9 => ?_)
    refine G_if_ne (q := 20) (t := 23) cx dX7_up_17 rfl (by decide) (fun c10 => ?_) (fun c10 => ?_)
    · refine G_aload_n (q := 24) cx dX7_up_23 rfl rfl ?_
      refine G_iload_n (q := 25) cx dX7_up_24 rfl rfl ?_
      refine G_iload_n (q := 26) cx dX7_up_25 rfl rfl ?_
      refine G_callV (q := 29) (d' := 5) (f := 7) (i := 0) (As := [.int a1, .int a2]) (rest := []) (stk := fun r11 => [.int r11]) cx dX7_up_26 rfl cf_7 (Nat.le_of_ble_eq_true rfl) ml_RX7_173 rfl rfl (Nat.le_of_ble_eq_true rfl) (Nat.le_of_ble_eq_true rfl) (Nat.le_of_ble_eq_true rfl) (c_X7_heightBehind l hJ _ a1 a2) (fun _ => rfl) (fun r11 S12 h13 o14 => ?_)
      exact G_iret cx rfl dX7_up_29 trivial
    · refine G_bipush (q := 22) (v := (-2 : Int32)) cx dX7_up_20 rfl (by decide) ?_
      exact G_iret cx rfl dX7_up_22 trivial
  · refine G_iconst (q := 9) (v := (-1 : Int32)) cx dX7_up_8 rfl (by decide) ?_
    exact G_iret cx rfl dX7_up_9 trivial
def L_X7_top_47 (a1 : Int32) (K_15 : Int32 → Int32 → Int32 → St → Option (Int32 × St)) : Nat → Int32 → Int32 → Int32 → St → Option (Int32 × St)
  | 0, _, _, _, _ => none
  | n + 1, x3_15, x4_15, x5_15, S_15 =>
    if (60 : Int32) < x5_15 then (K_15 x3_15 x4_15 x5_15 S_15)
    else (if 0 ≤ a1 ∧ a1.toNatClampNeg < 6 then ((gR S_15 5 0 8).elim none
    (fun p20 => bnd (F_X2_circles S_15 2 (6 * 0 + a1.toNatClampNeg) p20 (1 : Int32)) (fun r23 S24 =>
    if (gI S24 2 2 1) ≤ x3_15 then (L_X7_top_47 a1 K_15 n x3_15 x4_15 (x5_15 + 1) S24)
    else (L_X7_top_47 a1 K_15 n (gI S24 2 2 1) x5_15 (x5_15 + 1) S24))))
    else none)
def F_X7_top (S : St) (a1 : Int32) (a2 : Int32) : Option (Int32 × St) :=
  bnd (F_X7_isLift S a1) (fun r1 S2 =>
  if r1 = 0 then (some ((-1 : Int32), S2))
  else (bnd (F_X7_isWithin S2 a2 (0 : Int32) (1 : Int32)) (fun r6 S7 =>
  if r6 = 0 then (some ((-1 : Int32), S7))
  else (bnd (F_X2_copyFrom S7 2 0) (fun r11 S12 =>
  L_X7_top_47 a1 
  (fun y3_15 y4_15 y5_15 T_15 => if a2 = 0 then (some (y3_15, T_15))
  else (some (y4_15, T_15))) 1000 (gI S12 2 2 1) (0 : Int32) (1 : Int32) S12)))))
set_option maxRecDepth 10000 in
theorem c_X7_top (l : Launch) {D : va_G} {cy : Nat → ClassId} {ad : Nat → Nat → Nat} {k : Nat} (hJ : wJ ad (nX k)) (S : St) (a1 : Int32) (a2 : Int32) : CT l yX7_top cX7_top 6 (some .int) 5 D cy ad (nX k) toI okT [.ref (ad 7 0), .int a1, .int a2] S (F_X7_top S a1 a2) := by
  refine CT.of RX7 (by decide) rfl hJ (Nat.le_of_ble_eq_true rfl) rfl ?_
  intro p e s m below meth c cx
  unfold F_X7_top
  refine G_aload_n (q := 1) cx dX7_top_0 rfl rfl ?_
  refine G_iload_n (q := 2) cx dX7_top_1 rfl rfl ?_
  refine G_callV (q := 5) (d' := 0) (f := 7) (i := 0) (As := [.int a1]) (rest := []) (stk := fun r1 => [.int r1]) cx dX7_top_2 rfl cf_7 (Nat.le_of_ble_eq_true rfl) ml_RX7_94 rfl rfl (Nat.le_of_ble_eq_true rfl) (Nat.le_of_ble_eq_true rfl) (Nat.le_of_ble_eq_true rfl) (c_X7_isLift l hJ _ a1) (fun _ => rfl) (fun r1 S2 h3 o4 => ?_)
  refine G_if_eq (q := 8) (t := 17) cx dX7_top_5 rfl (by decide) (fun c5 => ?_) (fun c5 => ?_)
  · refine G_iconst (q := 18) (v := (-1 : Int32)) cx dX7_top_17 rfl (by decide) ?_
    exact G_iret cx rfl dX7_top_18 trivial
  refine G_iload_n (q := 9) cx dX7_top_8 rfl rfl ?_
  refine G_iconst (q := 10) (v := (0 : Int32)) cx dX7_top_9 rfl (by decide) ?_
  refine G_iconst (q := 11) (v := (1 : Int32)) cx dX7_top_10 rfl (by decide) ?_
  refine G_callS (q := 14) (d' := 0) (As := [.int a2, .int (0 : Int32), .int (1 : Int32)]) (rest := []) (stk := fun r6 => [.int r6]) cx dX7_top_11 rfl ml_RX7_74 rfl rfl (Nat.le_of_ble_eq_true rfl) (Nat.le_of_ble_eq_true rfl) (Nat.le_of_ble_eq_true rfl) (c_X7_isWithin l hJ _ a2 (0 : Int32) (1 : Int32)) (fun _ => rfl) (fun r6 S7 h8 o9 => ?_)
  refine G_if_ne (q := 17) (t := 19) cx dX7_top_14 rfl (by decide) (fun c10 => ?_) (fun c10 => ?_)
  · refine G_aload_n (q := 20) cx dX7_top_19 rfl rfl ?_
    refine G_getr (q := 23) (g := 2) (i' := 2) cx dX7_top_20 rfl cf_7 fl_RX7_33 (Nat.le_of_ble_eq_true rfl) rfl rfl (Nat.le_of_ble_eq_true rfl) ?_
    refine G_aload_n (q := 24) cx dX7_top_23 rfl rfl ?_
    refine G_getr (q := 27) (g := 5) (i' := 0) cx dX7_top_24 rfl cf_7 fl_RX7_23 (Nat.le_of_ble_eq_true rfl) rfl rfl (Nat.le_of_ble_eq_true rfl) ?_
    refine G_getr (q := 30) (g := 2) (i' := 0) cx dX7_top_27 rfl cf_5 fl_RX7_112 (Nat.le_of_ble_eq_true rfl) rfl rfl (Nat.le_of_ble_eq_true rfl) ?_
    refine G_callV (q := 33) (d' := 0) (f := 2) (i := 2) (As := [.ref (ad 2 0)]) (rest := []) (stk := fun _ => []) cx dX7_top_30 rfl cf_2 (Nat.le_of_ble_eq_true rfl) ml_RX7_165 rfl rfl (Nat.le_of_ble_eq_true rfl) (Nat.le_of_ble_eq_true rfl) (Nat.le_of_ble_eq_true rfl) (c_X2_copyFrom l hJ _ 2 0 (Nat.le_of_ble_eq_true rfl) (Nat.le_of_ble_eq_true rfl)) (fun _ => rfl) (fun r11 S12 h13 o14 => ?_)
    refine G_aload_n (q := 34) cx dX7_top_33 rfl rfl ?_
    refine G_getr (q := 37) (g := 2) (i' := 2) cx dX7_top_34 rfl cf_7 fl_RX7_33 (Nat.le_of_ble_eq_true rfl) rfl rfl (Nat.le_of_ble_eq_true rfl) ?_
    refine G_geti (q := 40) cx dX7_top_37 rfl cf_2 fl_RX7_115 (Nat.le_of_ble_eq_true rfl) rfl (Nat.le_of_ble_eq_true rfl) ?_
    refine G_istore_n (q := 41) (ls' := [(3, .int (gI S12 2 2 1)), (0, .ref (ad 7 0)), (1, .int a1), (2, .int a2)]) cx dX7_top_40 rfl rfl (Nat.le_of_ble_eq_true rfl) rfl ?_
    refine G_iconst (q := 42) (v := (0 : Int32)) cx dX7_top_41 rfl (by decide) ?_
    refine G_istore (q := 44) (ls' := [(4, .int (0 : Int32)), (3, .int (gI S12 2 2 1)), (0, .ref (ad 7 0)), (1, .int a1), (2, .int a2)]) cx dX7_top_42 rfl (Nat.le_of_ble_eq_true rfl) rfl ?_
    refine G_iconst (q := 45) (v := (1 : Int32)) cx dX7_top_44 rfl (by decide) ?_
    refine G_istore (q := 47) (ls' := [(5, .int (1 : Int32)), (4, .int (0 : Int32)), (3, .int (gI S12 2 2 1)), (0, .ref (ad 7 0)), (1, .int a1), (2, .int a2)]) cx dX7_top_45 rfl (Nat.le_of_ble_eq_true rfl) rfl ?_
    have lp_15 : ∀ (K_15 : Int32 → Int32 → Int32 → St → Option (Int32 × St)) (hK_15 : ∀ (y3_15 : Int32) (y4_15 : Int32) (y5_15 : Int32) (T_15 : St), TG p l e 5 s m ([.ref (ad 7 0), .int a1, .int a2] : List Value).toArray below meth c D cy ad (nX k) toI okT T_15 107 [(3, .int y3_15), (4, .int y4_15), (5, .int y5_15), (0, .ref (ad 7 0)), (1, .int a1), (2, .int a2)] [] (K_15 y3_15 y4_15 y5_15 T_15)), ∀ (n_15 : Nat) (x3_15 : Int32) (x4_15 : Int32) (x5_15 : Int32) (S_15 : St), TG p l e 5 s m ([.ref (ad 7 0), .int a1, .int a2] : List Value).toArray below meth c D cy ad (nX k) toI okT S_15 47 [(3, .int x3_15), (4, .int x4_15), (5, .int x5_15), (0, .ref (ad 7 0)), (1, .int a1), (2, .int a2)] [] (L_X7_top_47 a1 K_15 n_15 x3_15 x4_15 x5_15 S_15) := by
      intro K_15 hK_15 n_15
      induction n_15 with
      | zero => intros; exact G_none
      | succ n_15 ih_15 =>
        intro x3_15 x4_15 x5_15 S_15
        rw [L_X7_top_47.eq_2]
        refine G_iload (q := 49) cx dX7_top_47 rfl rfl ?_
        refine G_bipush (q := 51) (v := (60 : Int32)) cx dX7_top_49 rfl (by decide) ?_
        refine G_icmp_gt (q := 54) (t := 107) cx dX7_top_51 rfl (by decide) (fun c17 => ?_) (fun c17 => ?_)
        · exact G_loc [0, 1, 2, 3, 4, 5] rfl (hK_15 x3_15 x4_15 x5_15 S_15)
        refine G_aload_n (q := 55) cx dX7_top_54 rfl rfl ?_
        refine G_getr (q := 58) (g := 2) (i' := 2) cx dX7_top_55 rfl cf_7 fl_RX7_33 (Nat.le_of_ble_eq_true rfl) rfl rfl (Nat.le_of_ble_eq_true rfl) ?_
        refine G_aload_n (q := 59) cx dX7_top_58 rfl rfl ?_
        refine G_getr (q := 62) (g := 5) (i' := 0) cx dX7_top_59 rfl cf_7 fl_RX7_23 (Nat.le_of_ble_eq_true rfl) rfl rfl (Nat.le_of_ble_eq_true rfl) ?_
        refine G_getr (q := 65) (g := 12) (i' := 0) cx dX7_top_62 rfl cf_5 fl_RX7_84 (Nat.le_of_ble_eq_true rfl) rfl rfl (Nat.le_of_ble_eq_true rfl) ?_
        refine G_iload_n (q := 66) cx dX7_top_65 rfl rfl ?_
        refine G_aaldL (q := 67) cx dX7_top_66 rfl (Nat.le_of_ble_eq_true rfl) (fun g18 g19 => ?_)
        refine G_aload_n (q := 68) cx dX7_top_67 rfl rfl ?_
        refine G_getr (q := 71) (g := 5) (i' := 0) cx dX7_top_68 rfl cf_7 fl_RX7_23 (Nat.le_of_ble_eq_true rfl) rfl rfl (Nat.le_of_ble_eq_true rfl) ?_
        refine G_geta (q := 74) cx dX7_top_71 rfl cf_5 fl_RX7_109 (Nat.le_of_ble_eq_true rfl) rfl (Nat.le_of_ble_eq_true rfl) (fun e21 => ?_) (fun p20 e22 h_p20 => ?_)
        · exact G_none
        refine G_iconst (q := 75) (v := (1 : Int32)) cx dX7_top_74 rfl (by decide) ?_
        refine G_callV (q := 78) (d' := 4) (f := 2) (i := 2) (As := [.ref (ad 3 (6 * 0 + a1.toNatClampNeg)), .ref (ad 0 p20), .int (1 : Int32)]) (rest := []) (stk := fun _ => []) cx dX7_top_75 rfl cf_2 (Nat.le_of_ble_eq_true rfl) ml_RX7_158 rfl rfl (Nat.le_of_ble_eq_true rfl) (Nat.le_of_ble_eq_true rfl) (Nat.le_of_ble_eq_true rfl) (c_X2_circles l hJ _ 2 (6 * 0 + a1.toNatClampNeg) p20 (1 : Int32) (Nat.le_of_ble_eq_true rfl) (by show 6 * 0 + a1.toNatClampNeg < 12; omega) h_p20) (fun _ => rfl) (fun r23 S24 h25 o26 => ?_)
        refine G_aload_n (q := 79) cx dX7_top_78 rfl rfl ?_
        refine G_getr (q := 82) (g := 2) (i' := 2) cx dX7_top_79 rfl cf_7 fl_RX7_33 (Nat.le_of_ble_eq_true rfl) rfl rfl (Nat.le_of_ble_eq_true rfl) ?_
        refine G_geti (q := 85) cx dX7_top_82 rfl cf_2 fl_RX7_115 (Nat.le_of_ble_eq_true rfl) rfl (Nat.le_of_ble_eq_true rfl) ?_
        refine G_iload_n (q := 86) cx dX7_top_85 rfl rfl ?_
        refine G_icmp_le (q := 89) (t := 101) cx dX7_top_86 rfl (by decide) (fun c27 => ?_) (fun c27 => ?_)
        · refine G_iinc (q := 104) (j := 2) (v := x5_15 + 1) (ls' := [(5, .int (x5_15 + 1)), (3, .int x3_15), (4, .int x4_15), (0, .ref (ad 7 0)), (1, .int a1), (2, .int a2)]) cx dX7_top_101 rfl rfl rfl (Nat.le_of_ble_eq_true rfl) rfl ?_
          refine G_goto (t := 47) cx dX7_top_104 (by decide) ?_
          exact G_loc [1, 2, 0, 3, 4, 5] rfl (ih_15 x3_15 x4_15 (x5_15 + 1) S24)
        refine G_aload_n (q := 90) cx dX7_top_89 rfl rfl ?_
        refine G_getr (q := 93) (g := 2) (i' := 2) cx dX7_top_90 rfl cf_7 fl_RX7_33 (Nat.le_of_ble_eq_true rfl) rfl rfl (Nat.le_of_ble_eq_true rfl) ?_
        refine G_geti (q := 96) cx dX7_top_93 rfl cf_2 fl_RX7_115 (Nat.le_of_ble_eq_true rfl) rfl (Nat.le_of_ble_eq_true rfl) ?_
        refine G_istore_n (q := 97) (ls' := [(3, .int (gI S24 2 2 1)), (4, .int x4_15), (5, .int x5_15), (0, .ref (ad 7 0)), (1, .int a1), (2, .int a2)]) cx dX7_top_96 rfl rfl (Nat.le_of_ble_eq_true rfl) rfl ?_
        refine G_iload (q := 99) cx dX7_top_97 rfl rfl ?_
        refine G_istore (q := 101) (ls' := [(4, .int x5_15), (3, .int (gI S24 2 2 1)), (5, .int x5_15), (0, .ref (ad 7 0)), (1, .int a1), (2, .int a2)]) cx dX7_top_99 rfl (Nat.le_of_ble_eq_true rfl) rfl ?_
        refine G_iinc (q := 104) (j := 2) (v := x5_15 + 1) (ls' := [(5, .int (x5_15 + 1)), (4, .int x5_15), (3, .int (gI S24 2 2 1)), (0, .ref (ad 7 0)), (1, .int a1), (2, .int a2)]) cx dX7_top_101 rfl rfl rfl (Nat.le_of_ble_eq_true rfl) rfl ?_
        refine G_goto (t := 47) cx dX7_top_104 (by decide) ?_
        exact G_loc [2, 1, 0, 3, 4, 5] rfl (ih_15 (gI S24 2 2 1) x5_15 (x5_15 + 1) S24)
    refine G_loc [2, 1, 0, 3, 4, 5] rfl (lp_15 _ (fun y3_15 y4_15 y5_15 T_15 => ?_) 1000 (gI S12 2 2 1) (0 : Int32) (1 : Int32) S12)
    refine G_iload_n (q := 108) cx dX7_top_107 rfl rfl ?_
    refine G_if_ne (q := 111) (t := 115) cx dX7_top_108 rfl (by decide) (fun c16 => ?_) (fun c16 => ?_)
    · refine G_iload (q := 117) cx dX7_top_115 rfl rfl ?_
      exact G_iret cx rfl dX7_top_117 trivial
    · refine G_iload_n (q := 112) cx dX7_top_111 rfl rfl ?_
      refine G_goto (t := 117) cx dX7_top_112 (by decide) ?_
      exact G_iret cx rfl dX7_top_117 trivial
  · refine G_iconst (q := 18) (v := (-1 : Int32)) cx dX7_top_17 rfl (by decide) ?_
    exact G_iret cx rfl dX7_top_18 trivial
def F_X7_arrives (S : St) (a1 : Int32) (a2 : Int32) : Option (Int32 × St) :=
  bnd (F_X7_isMile S a1) (fun r1 S2 =>
  if r1 = 0 then (some ((-2 : Int32), S2))
  else (bnd (F_X7_isPace S2 a2) (fun r6 S7 =>
  if r6 = 0 then (some ((-2 : Int32), S7))
  else (bnd (F_X2_copyFrom S7 2 0) (fun r11 S12 =>
  bnd (F_X2_glides S12 2 a1 a2) (fun r15 S16 =>
  if r15 = 0 then (some ((-5 : Int32), S16))
  else (some (gI S16 2 2 1, S16))))))))
set_option maxRecDepth 10000 in
theorem c_X7_arrives (l : Launch) {D : va_G} {cy : Nat → ClassId} {ad : Nat → Nat → Nat} {k : Nat} (hJ : wJ ad (nX k)) (S : St) (a1 : Int32) (a2 : Int32) : CT l yX7_arrives cX7_arrives 3 (some .int) 2 D cy ad (nX k) toI okT [.ref (ad 7 0), .int a1, .int a2] S (F_X7_arrives S a1 a2) := by
  refine CT.of RX7 (by decide) rfl hJ (Nat.le_of_ble_eq_true rfl) rfl ?_
  intro p e s m below meth c cx
  unfold F_X7_arrives
  refine G_iload_n (q := 1) cx dX7_arrives_0 rfl rfl ?_
  refine G_callS (q := 4) (d' := 1) (As := [.int a1]) (rest := []) (stk := fun r1 => [.int r1]) cx dX7_arrives_1 rfl ml_RX7_78 rfl rfl (Nat.le_of_ble_eq_true rfl) (Nat.le_of_ble_eq_true rfl) (Nat.le_of_ble_eq_true rfl) (c_X7_isMile l hJ _ a1) (fun _ => rfl) (fun r1 S2 h3 o4 => ?_)
  refine G_if_eq (q := 7) (t := 14) cx dX7_arrives_4 rfl (by decide) (fun c5 => ?_) (fun c5 => ?_)
  · refine G_bipush (q := 16) (v := (-2 : Int32)) cx dX7_arrives_14 rfl (by decide) ?_
    exact G_iret cx rfl dX7_arrives_16 trivial
  refine G_iload_n (q := 8) cx dX7_arrives_7 rfl rfl ?_
  refine G_callS (q := 11) (d' := 1) (As := [.int a2]) (rest := []) (stk := fun r6 => [.int r6]) cx dX7_arrives_8 rfl ml_RX7_162 rfl rfl (Nat.le_of_ble_eq_true rfl) (Nat.le_of_ble_eq_true rfl) (Nat.le_of_ble_eq_true rfl) (c_X7_isPace l hJ _ a2) (fun _ => rfl) (fun r6 S7 h8 o9 => ?_)
  refine G_if_ne (q := 14) (t := 17) cx dX7_arrives_11 rfl (by decide) (fun c10 => ?_) (fun c10 => ?_)
  · refine G_aload_n (q := 18) cx dX7_arrives_17 rfl rfl ?_
    refine G_getr (q := 21) (g := 2) (i' := 2) cx dX7_arrives_18 rfl cf_7 fl_RX7_33 (Nat.le_of_ble_eq_true rfl) rfl rfl (Nat.le_of_ble_eq_true rfl) ?_
    refine G_aload_n (q := 22) cx dX7_arrives_21 rfl rfl ?_
    refine G_getr (q := 25) (g := 5) (i' := 0) cx dX7_arrives_22 rfl cf_7 fl_RX7_23 (Nat.le_of_ble_eq_true rfl) rfl rfl (Nat.le_of_ble_eq_true rfl) ?_
    refine G_getr (q := 28) (g := 2) (i' := 0) cx dX7_arrives_25 rfl cf_5 fl_RX7_112 (Nat.le_of_ble_eq_true rfl) rfl rfl (Nat.le_of_ble_eq_true rfl) ?_
    refine G_callV (q := 31) (d' := 0) (f := 2) (i := 2) (As := [.ref (ad 2 0)]) (rest := []) (stk := fun _ => []) cx dX7_arrives_28 rfl cf_2 (Nat.le_of_ble_eq_true rfl) ml_RX7_165 rfl rfl (Nat.le_of_ble_eq_true rfl) (Nat.le_of_ble_eq_true rfl) (Nat.le_of_ble_eq_true rfl) (c_X2_copyFrom l hJ _ 2 0 (Nat.le_of_ble_eq_true rfl) (Nat.le_of_ble_eq_true rfl)) (fun _ => rfl) (fun r11 S12 h13 o14 => ?_)
    refine G_aload_n (q := 32) cx dX7_arrives_31 rfl rfl ?_
    refine G_getr (q := 35) (g := 2) (i' := 2) cx dX7_arrives_32 rfl cf_7 fl_RX7_33 (Nat.le_of_ble_eq_true rfl) rfl rfl (Nat.le_of_ble_eq_true rfl) ?_
    refine G_iload_n (q := 36) cx dX7_arrives_35 rfl rfl ?_
    refine G_iload_n (q := 37) cx dX7_arrives_36 rfl rfl ?_
    refine G_callV (q := 40) (d' := 1) (f := 2) (i := 2) (As := [.int a1, .int a2]) (rest := []) (stk := fun r15 => [.int r15]) cx dX7_arrives_37 rfl cf_2 (Nat.le_of_ble_eq_true rfl) ml_RX7_169 rfl rfl (Nat.le_of_ble_eq_true rfl) (Nat.le_of_ble_eq_true rfl) (Nat.le_of_ble_eq_true rfl) (c_X2_glides l hJ _ 2 a1 a2 (Nat.le_of_ble_eq_true rfl)) (fun _ => rfl) (fun r15 S16 h17 o18 => ?_)
    refine G_if_eq (q := 43) (t := 53) cx dX7_arrives_40 rfl (by decide) (fun c19 => ?_) (fun c19 => ?_)
    · refine G_bipush (q := 55) (v := (-5 : Int32)) cx dX7_arrives_53 rfl (by decide) ?_
      exact G_iret cx rfl dX7_arrives_55 trivial
    refine G_aload_n (q := 44) cx dX7_arrives_43 rfl rfl ?_
    refine G_getr (q := 47) (g := 2) (i' := 2) cx dX7_arrives_44 rfl cf_7 fl_RX7_33 (Nat.le_of_ble_eq_true rfl) rfl rfl (Nat.le_of_ble_eq_true rfl) ?_
    refine G_geti (q := 50) cx dX7_arrives_47 rfl cf_2 fl_RX7_115 (Nat.le_of_ble_eq_true rfl) rfl (Nat.le_of_ble_eq_true rfl) ?_
    refine G_goto (t := 55) cx dX7_arrives_50 (by decide) ?_
    exact G_iret cx rfl dX7_arrives_55 trivial
  · refine G_bipush (q := 16) (v := (-2 : Int32)) cx dX7_arrives_14 rfl (by decide) ?_
    exact G_iret cx rfl dX7_arrives_16 trivial
def F_X7_outed (S : St) (a1 : Int32) (a2 : Int32) : Option (Int32 × St) :=
  bnd (F_X7_isMile S a1) (fun r1 S2 =>
  if r1 = 0 then (some ((-2 : Int32), S2))
  else (bnd (F_X7_isPace S2 a2) (fun r6 S7 =>
  if r6 = 0 then (some ((-2 : Int32), S7))
  else (bnd (F_X2_sinkOfMile S7 a2) (fun r11 S12 =>
  if r11 = 0 then none else (some (if ((gI S7 2 0 1) / r11) < (if 0 ≤ (a1 - (gI S7 2 0 0)) then (a1 - (gI S7 2 0 0)) else 0 - (a1 - (gI S7 2 0 0))) then ((gI S7 2 0 1) / r11) else (if 0 ≤ (a1 - (gI S7 2 0 0)) then (a1 - (gI S7 2 0 0)) else 0 - (a1 - (gI S7 2 0 0))), S12)))))))
set_option maxRecDepth 10000 in
theorem c_X7_outed (l : Launch) {D : va_G} {cy : Nat → ClassId} {ad : Nat → Nat → Nat} {k : Nat} (hJ : wJ ad (nX k)) (S : St) (a1 : Int32) (a2 : Int32) : CT l yX7_outed cX7_outed 3 (some .int) 2 D cy ad (nX k) toI okT [.ref (ad 7 0), .int a1, .int a2] S (F_X7_outed S a1 a2) := by
  refine CT.of RX7 (by decide) rfl hJ (Nat.le_of_ble_eq_true rfl) rfl ?_
  intro p e s m below meth c cx
  unfold F_X7_outed
  refine G_iload_n (q := 1) cx dX7_outed_0 rfl rfl ?_
  refine G_callS (q := 4) (d' := 1) (As := [.int a1]) (rest := []) (stk := fun r1 => [.int r1]) cx dX7_outed_1 rfl ml_RX7_78 rfl rfl (Nat.le_of_ble_eq_true rfl) (Nat.le_of_ble_eq_true rfl) (Nat.le_of_ble_eq_true rfl) (c_X7_isMile l hJ _ a1) (fun _ => rfl) (fun r1 S2 h3 o4 => ?_)
  refine G_if_eq (q := 7) (t := 14) cx dX7_outed_4 rfl (by decide) (fun c5 => ?_) (fun c5 => ?_)
  · refine G_bipush (q := 16) (v := (-2 : Int32)) cx dX7_outed_14 rfl (by decide) ?_
    exact G_iret cx rfl dX7_outed_16 trivial
  refine G_iload_n (q := 8) cx dX7_outed_7 rfl rfl ?_
  refine G_callS (q := 11) (d' := 1) (As := [.int a2]) (rest := []) (stk := fun r6 => [.int r6]) cx dX7_outed_8 rfl ml_RX7_162 rfl rfl (Nat.le_of_ble_eq_true rfl) (Nat.le_of_ble_eq_true rfl) (Nat.le_of_ble_eq_true rfl) (c_X7_isPace l hJ _ a2) (fun _ => rfl) (fun r6 S7 h8 o9 => ?_)
  refine G_if_ne (q := 14) (t := 17) cx dX7_outed_11 rfl (by decide) (fun c10 => ?_) (fun c10 => ?_)
  · refine G_iload_n (q := 18) cx dX7_outed_17 rfl rfl ?_
    refine G_aload_n (q := 19) cx dX7_outed_18 rfl rfl ?_
    refine G_getr (q := 22) (g := 5) (i' := 0) cx dX7_outed_19 rfl cf_7 fl_RX7_23 (Nat.le_of_ble_eq_true rfl) rfl rfl (Nat.le_of_ble_eq_true rfl) ?_
    refine G_getr (q := 25) (g := 2) (i' := 0) cx dX7_outed_22 rfl cf_5 fl_RX7_112 (Nat.le_of_ble_eq_true rfl) rfl rfl (Nat.le_of_ble_eq_true rfl) ?_
    refine G_geti (q := 28) cx dX7_outed_25 rfl cf_2 fl_RX7_148 (Nat.le_of_ble_eq_true rfl) rfl (Nat.le_of_ble_eq_true rfl) ?_
    refine G_isub (q := 29) cx dX7_outed_28 rfl ?_
    refine G_mabs (q := 32) cx dX7_outed_29 rfl ml_RX7_177 (Nat.le_of_ble_eq_true rfl) (Nat.le_of_ble_eq_true rfl) ?_
    refine G_aload_n (q := 33) cx dX7_outed_32 rfl rfl ?_
    refine G_getr (q := 36) (g := 5) (i' := 0) cx dX7_outed_33 rfl cf_7 fl_RX7_23 (Nat.le_of_ble_eq_true rfl) rfl rfl (Nat.le_of_ble_eq_true rfl) ?_
    refine G_getr (q := 39) (g := 2) (i' := 0) cx dX7_outed_36 rfl cf_5 fl_RX7_112 (Nat.le_of_ble_eq_true rfl) rfl rfl (Nat.le_of_ble_eq_true rfl) ?_
    refine G_geti (q := 42) cx dX7_outed_39 rfl cf_2 fl_RX7_115 (Nat.le_of_ble_eq_true rfl) rfl (Nat.le_of_ble_eq_true rfl) ?_
    refine G_iload_n (q := 43) cx dX7_outed_42 rfl rfl ?_
    refine G_callS (q := 46) (d' := 0) (As := [.int a2]) (rest := [.int (gI S7 2 0 1), .int (if 0 ≤ (a1 - (gI S7 2 0 0)) then (a1 - (gI S7 2 0 0)) else 0 - (a1 - (gI S7 2 0 0)))]) (stk := fun r11 => [.int r11, .int (gI S7 2 0 1), .int (if 0 ≤ (a1 - (gI S7 2 0 0)) then (a1 - (gI S7 2 0 0)) else 0 - (a1 - (gI S7 2 0 0)))]) cx dX7_outed_43 rfl ml_RX7_183 rfl rfl (Nat.le_of_ble_eq_true rfl) (Nat.le_of_ble_eq_true rfl) (Nat.le_of_ble_eq_true rfl) (c_X2_sinkOfMile l hJ _ a2) (fun _ => rfl) (fun r11 S12 h13 o14 => ?_)
    refine G_case (fun _ => G_none) (fun g15 => ?_)
    refine G_idiv (q := 47) cx dX7_outed_46 rfl g15 ?_
    refine G_mmin (q := 50) cx dX7_outed_47 rfl ml_RX7_186 (Nat.le_of_ble_eq_true rfl) (Nat.le_of_ble_eq_true rfl) ?_
    exact G_iret cx rfl dX7_outed_50 trivial
  · refine G_bipush (q := 16) (v := (-2 : Int32)) cx dX7_outed_14 rfl (by decide) ?_
    exact G_iret cx rfl dX7_outed_16 trivial
def F_X7_arrivesSafely (S : St) (a1 : Int32) (a2 : Int32) : Option (Int32 × St) :=
  bnd (F_X2_copyFrom S 2 0) (fun r1 S2 =>
  bnd (F_X2_glides S2 2 a1 a2) (fun r5 S6 =>
  if r5 = 0 then (some ((0 : Int32), S6))
  else ((gR S6 5 0 8).elim none
  (fun p10 => if (gI S6 2 2 1) < (gI S6 0 p10 3) then (some ((0 : Int32), S6))
  else (some ((1 : Int32), S6))))))
set_option maxRecDepth 10000 in
theorem c_X7_arrivesSafely (l : Launch) {D : va_G} {cy : Nat → ClassId} {ad : Nat → Nat → Nat} {k : Nat} (hJ : wJ ad (nX k)) (S : St) (a1 : Int32) (a2 : Int32) : CT l yX7_arrivesSafely cX7_arrivesSafely 3 (some .boolean) 2 D cy ad (nX k) toI okZ [.ref (ad 7 0), .int a1, .int a2] S (F_X7_arrivesSafely S a1 a2) := by
  refine CT.of RX7 (by decide) rfl hJ (Nat.le_of_ble_eq_true rfl) rfl ?_
  intro p e s m below meth c cx
  unfold F_X7_arrivesSafely
  refine G_aload_n (q := 1) cx dX7_arrivesSafely_0 rfl rfl ?_
  refine G_getr (q := 4) (g := 2) (i' := 2) cx dX7_arrivesSafely_1 rfl cf_7 fl_RX7_33 (Nat.le_of_ble_eq_true rfl) rfl rfl (Nat.le_of_ble_eq_true rfl) ?_
  refine G_aload_n (q := 5) cx dX7_arrivesSafely_4 rfl rfl ?_
  refine G_getr (q := 8) (g := 5) (i' := 0) cx dX7_arrivesSafely_5 rfl cf_7 fl_RX7_23 (Nat.le_of_ble_eq_true rfl) rfl rfl (Nat.le_of_ble_eq_true rfl) ?_
  refine G_getr (q := 11) (g := 2) (i' := 0) cx dX7_arrivesSafely_8 rfl cf_5 fl_RX7_112 (Nat.le_of_ble_eq_true rfl) rfl rfl (Nat.le_of_ble_eq_true rfl) ?_
  refine G_callV (q := 14) (d' := 0) (f := 2) (i := 2) (As := [.ref (ad 2 0)]) (rest := []) (stk := fun _ => []) cx dX7_arrivesSafely_11 rfl cf_2 (Nat.le_of_ble_eq_true rfl) ml_RX7_165 rfl rfl (Nat.le_of_ble_eq_true rfl) (Nat.le_of_ble_eq_true rfl) (Nat.le_of_ble_eq_true rfl) (c_X2_copyFrom l hJ _ 2 0 (Nat.le_of_ble_eq_true rfl) (Nat.le_of_ble_eq_true rfl)) (fun _ => rfl) (fun r1 S2 h3 o4 => ?_)
  refine G_aload_n (q := 15) cx dX7_arrivesSafely_14 rfl rfl ?_
  refine G_getr (q := 18) (g := 2) (i' := 2) cx dX7_arrivesSafely_15 rfl cf_7 fl_RX7_33 (Nat.le_of_ble_eq_true rfl) rfl rfl (Nat.le_of_ble_eq_true rfl) ?_
  refine G_iload_n (q := 19) cx dX7_arrivesSafely_18 rfl rfl ?_
  refine G_iload_n (q := 20) cx dX7_arrivesSafely_19 rfl rfl ?_
  refine G_callV (q := 23) (d' := 1) (f := 2) (i := 2) (As := [.int a1, .int a2]) (rest := []) (stk := fun r5 => [.int r5]) cx dX7_arrivesSafely_20 rfl cf_2 (Nat.le_of_ble_eq_true rfl) ml_RX7_169 rfl rfl (Nat.le_of_ble_eq_true rfl) (Nat.le_of_ble_eq_true rfl) (Nat.le_of_ble_eq_true rfl) (c_X2_glides l hJ _ 2 a1 a2 (Nat.le_of_ble_eq_true rfl)) (fun _ => rfl) (fun r5 S6 h7 o8 => ?_)
  refine G_if_eq (q := 26) (t := 50) cx dX7_arrivesSafely_23 rfl (by decide) (fun c9 => ?_) (fun c9 => ?_)
  · refine G_iconst (q := 51) (v := (0 : Int32)) cx dX7_arrivesSafely_50 rfl (by decide) ?_
    exact G_zret (ty := .boolean) cx rfl dX7_arrivesSafely_51 rfl rfl
  refine G_aload_n (q := 27) cx dX7_arrivesSafely_26 rfl rfl ?_
  refine G_getr (q := 30) (g := 2) (i' := 2) cx dX7_arrivesSafely_27 rfl cf_7 fl_RX7_33 (Nat.le_of_ble_eq_true rfl) rfl rfl (Nat.le_of_ble_eq_true rfl) ?_
  refine G_geti (q := 33) cx dX7_arrivesSafely_30 rfl cf_2 fl_RX7_115 (Nat.le_of_ble_eq_true rfl) rfl (Nat.le_of_ble_eq_true rfl) ?_
  refine G_aload_n (q := 34) cx dX7_arrivesSafely_33 rfl rfl ?_
  refine G_getr (q := 37) (g := 5) (i' := 0) cx dX7_arrivesSafely_34 rfl cf_7 fl_RX7_23 (Nat.le_of_ble_eq_true rfl) rfl rfl (Nat.le_of_ble_eq_true rfl) ?_
  refine G_geta (q := 40) cx dX7_arrivesSafely_37 rfl cf_5 fl_RX7_109 (Nat.le_of_ble_eq_true rfl) rfl (Nat.le_of_ble_eq_true rfl) (fun e11 => ?_) (fun p10 e12 h_p10 => ?_)
  · exact G_none
  refine G_geti (q := 43) cx dX7_arrivesSafely_40 rfl cf_0 fl_RX7_155 (Nat.le_of_ble_eq_true rfl) rfl h_p10 ?_
  refine G_icmp_lt (q := 46) (t := 50) cx dX7_arrivesSafely_43 rfl (by decide) (fun c13 => ?_) (fun c13 => ?_)
  · refine G_iconst (q := 51) (v := (0 : Int32)) cx dX7_arrivesSafely_50 rfl (by decide) ?_
    exact G_zret (ty := .boolean) cx rfl dX7_arrivesSafely_51 rfl rfl
  · refine G_iconst (q := 47) (v := (1 : Int32)) cx dX7_arrivesSafely_46 rfl (by decide) ?_
    refine G_goto (t := 51) cx dX7_arrivesSafely_47 (by decide) ?_
    exact G_zret (ty := .boolean) cx rfl dX7_arrivesSafely_51 rfl rfl
def L_X7_reach_14 (a1 : Int32) (K_6 : Int32 → Int32 → St → Option (Int32 × St)) : Nat → Int32 → Int32 → St → Option (Int32 × St)
  | 0, _, _, _ => none
  | n + 1, x2_6, x3_6, S_6 =>
    if (gI S_6 5 0 5) ≤ x3_6 then (K_6 x2_6 x3_6 S_6)
    else (if 0 ≤ x3_6 ∧ x3_6.toNatClampNeg < 6 then (bnd (F_X7_arrivesSafely S_6 (gI S_6 3 (6 * 0 + x3_6.toNatClampNeg) 4) a1) (fun r10 S11 =>
    if r10 = 0 then (L_X7_reach_14 a1 K_6 n x2_6 (x3_6 + 1) S11)
    else (L_X7_reach_14 a1 K_6 n (x2_6 ||| ((1 : Int32) <<< (x3_6 &&& 31))) (x3_6 + 1) S11)))
    else none)
def F_X7_reach (S : St) (a1 : Int32) : Option (Int32 × St) :=
  bnd (F_X7_isPace S a1) (fun r1 S2 =>
  if r1 = 0 then (some ((-2 : Int32), S2))
  else (L_X7_reach_14 a1 
  (fun y2_6 y3_6 T_6 => some (y2_6, T_6)) 1000 (0 : Int32) (0 : Int32) S2))
set_option maxRecDepth 10000 in
theorem c_X7_reach (l : Launch) {D : va_G} {cy : Nat → ClassId} {ad : Nat → Nat → Nat} {k : Nat} (hJ : wJ ad (nX k)) (S : St) (a1 : Int32) : CT l yX7_reach cX7_reach 4 (some .int) 3 D cy ad (nX k) toI okT [.ref (ad 7 0), .int a1] S (F_X7_reach S a1) := by
  refine CT.of RX7 (by decide) rfl hJ (Nat.le_of_ble_eq_true rfl) rfl ?_
  intro p e s m below meth c cx
  unfold F_X7_reach
  refine G_iload_n (q := 1) cx dX7_reach_0 rfl rfl ?_
  refine G_callS (q := 4) (d' := 1) (As := [.int a1]) (rest := []) (stk := fun r1 => [.int r1]) cx dX7_reach_1 rfl ml_RX7_162 rfl rfl (Nat.le_of_ble_eq_true rfl) (Nat.le_of_ble_eq_true rfl) (Nat.le_of_ble_eq_true rfl) (c_X7_isPace l hJ _ a1) (fun _ => rfl) (fun r1 S2 h3 o4 => ?_)
  refine G_if_ne (q := 7) (t := 10) cx dX7_reach_4 rfl (by decide) (fun c5 => ?_) (fun c5 => ?_)
  · refine G_iconst (q := 11) (v := (0 : Int32)) cx dX7_reach_10 rfl (by decide) ?_
    refine G_istore_n (q := 12) (ls' := [(2, .int (0 : Int32)), (0, .ref (ad 7 0)), (1, .int a1)]) cx dX7_reach_11 rfl rfl (Nat.le_of_ble_eq_true rfl) rfl ?_
    refine G_iconst (q := 13) (v := (0 : Int32)) cx dX7_reach_12 rfl (by decide) ?_
    refine G_istore_n (q := 14) (ls' := [(3, .int (0 : Int32)), (2, .int (0 : Int32)), (0, .ref (ad 7 0)), (1, .int a1)]) cx dX7_reach_13 rfl rfl (Nat.le_of_ble_eq_true rfl) rfl ?_
    have lp_6 : ∀ (K_6 : Int32 → Int32 → St → Option (Int32 × St)) (hK_6 : ∀ (y2_6 : Int32) (y3_6 : Int32) (T_6 : St), TG p l e 3 s m ([.ref (ad 7 0), .int a1] : List Value).toArray below meth c D cy ad (nX k) toI okT T_6 57 [(2, .int y2_6), (3, .int y3_6), (0, .ref (ad 7 0)), (1, .int a1)] [] (K_6 y2_6 y3_6 T_6)), ∀ (n_6 : Nat) (x2_6 : Int32) (x3_6 : Int32) (S_6 : St), TG p l e 3 s m ([.ref (ad 7 0), .int a1] : List Value).toArray below meth c D cy ad (nX k) toI okT S_6 14 [(2, .int x2_6), (3, .int x3_6), (0, .ref (ad 7 0)), (1, .int a1)] [] (L_X7_reach_14 a1 K_6 n_6 x2_6 x3_6 S_6) := by
      intro K_6 hK_6 n_6
      induction n_6 with
      | zero => intros; exact G_none
      | succ n_6 ih_6 =>
        intro x2_6 x3_6 S_6
        rw [L_X7_reach_14.eq_2]
        refine G_iload_n (q := 15) cx dX7_reach_14 rfl rfl ?_
        refine G_aload_n (q := 16) cx dX7_reach_15 rfl rfl ?_
        refine G_getr (q := 19) (g := 5) (i' := 0) cx dX7_reach_16 rfl cf_7 fl_RX7_23 (Nat.le_of_ble_eq_true rfl) rfl rfl (Nat.le_of_ble_eq_true rfl) ?_
        refine G_geti (q := 22) cx dX7_reach_19 rfl cf_5 fl_RX7_81 (Nat.le_of_ble_eq_true rfl) rfl (Nat.le_of_ble_eq_true rfl) ?_
        refine G_icmp_ge (q := 25) (t := 57) cx dX7_reach_22 rfl (by decide) (fun c7 => ?_) (fun c7 => ?_)
        · exact G_loc [0, 1, 2, 3] rfl (hK_6 x2_6 x3_6 S_6)
        refine G_aload_n (q := 26) cx dX7_reach_25 rfl rfl ?_
        refine G_aload_n (q := 27) cx dX7_reach_26 rfl rfl ?_
        refine G_getr (q := 30) (g := 5) (i' := 0) cx dX7_reach_27 rfl cf_7 fl_RX7_23 (Nat.le_of_ble_eq_true rfl) rfl rfl (Nat.le_of_ble_eq_true rfl) ?_
        refine G_getr (q := 33) (g := 12) (i' := 0) cx dX7_reach_30 rfl cf_5 fl_RX7_84 (Nat.le_of_ble_eq_true rfl) rfl rfl (Nat.le_of_ble_eq_true rfl) ?_
        refine G_iload_n (q := 34) cx dX7_reach_33 rfl rfl ?_
        refine G_aaldL (q := 35) cx dX7_reach_34 rfl (Nat.le_of_ble_eq_true rfl) (fun g8 g9 => ?_)
        refine G_geti (q := 38) cx dX7_reach_35 rfl cf_3 fl_RX7_103 (Nat.le_of_ble_eq_true rfl) rfl (by show 6 * 0 + x3_6.toNatClampNeg < 12; omega) ?_
        refine G_iload_n (q := 39) cx dX7_reach_38 rfl rfl ?_
        refine G_callV (q := 42) (d' := 2) (f := 7) (i := 0) (As := [.int (gI S_6 3 (6 * 0 + x3_6.toNatClampNeg) 4), .int a1]) (rest := []) (stk := fun r10 => [.int r10]) cx dX7_reach_39 rfl cf_7 (Nat.le_of_ble_eq_true rfl) ml_RX7_189 rfl rfl (Nat.le_of_ble_eq_true rfl) (Nat.le_of_ble_eq_true rfl) (Nat.le_of_ble_eq_true rfl) (c_X7_arrivesSafely l hJ _ (gI S_6 3 (6 * 0 + x3_6.toNatClampNeg) 4) a1) (fun _ => rfl) (fun r10 S11 h12 o13 => ?_)
        refine G_if_eq (q := 45) (t := 51) cx dX7_reach_42 rfl (by decide) (fun c14 => ?_) (fun c14 => ?_)
        · refine G_iinc (q := 54) (j := 1) (v := x3_6 + 1) (ls' := [(3, .int (x3_6 + 1)), (2, .int x2_6), (0, .ref (ad 7 0)), (1, .int a1)]) cx dX7_reach_51 rfl rfl rfl (Nat.le_of_ble_eq_true rfl) rfl ?_
          refine G_goto (t := 14) cx dX7_reach_54 (by decide) ?_
          exact G_loc [1, 0, 2, 3] rfl (ih_6 x2_6 (x3_6 + 1) S11)
        refine G_iload_n (q := 46) cx dX7_reach_45 rfl rfl ?_
        refine G_iconst (q := 47) (v := (1 : Int32)) cx dX7_reach_46 rfl (by decide) ?_
        refine G_iload_n (q := 48) cx dX7_reach_47 rfl rfl ?_
        refine G_ishl (q := 49) cx dX7_reach_48 rfl ?_
        refine G_ior (q := 50) cx dX7_reach_49 rfl ?_
        refine G_istore_n (q := 51) (ls' := [(2, .int (x2_6 ||| ((1 : Int32) <<< (x3_6 &&& 31)))), (3, .int x3_6), (0, .ref (ad 7 0)), (1, .int a1)]) cx dX7_reach_50 rfl rfl (Nat.le_of_ble_eq_true rfl) rfl ?_
        refine G_iinc (q := 54) (j := 1) (v := x3_6 + 1) (ls' := [(3, .int (x3_6 + 1)), (2, .int (x2_6 ||| ((1 : Int32) <<< (x3_6 &&& 31)))), (0, .ref (ad 7 0)), (1, .int a1)]) cx dX7_reach_51 rfl rfl rfl (Nat.le_of_ble_eq_true rfl) rfl ?_
        refine G_goto (t := 14) cx dX7_reach_54 (by decide) ?_
        exact G_loc [1, 0, 2, 3] rfl (ih_6 (x2_6 ||| ((1 : Int32) <<< (x3_6 &&& 31))) (x3_6 + 1) S11)
    refine G_loc [1, 0, 2, 3] rfl (lp_6 _ (fun y2_6 y3_6 T_6 => ?_) 1000 (0 : Int32) (0 : Int32) S2)
    refine G_iload_n (q := 58) cx dX7_reach_57 rfl rfl ?_
    exact G_iret cx rfl dX7_reach_58 trivial
  · refine G_bipush (q := 9) (v := (-2 : Int32)) cx dX7_reach_7 rfl (by decide) ?_
    exact G_iret cx rfl dX7_reach_9 trivial
def L_X7_next_18 (a1 : Int32) (K_6 : Int32 → Int32 → Int32 → St → Option (Int32 × St)) : Nat → Int32 → Int32 → Int32 → St → Option (Int32 × St)
  | 0, _, _, _, _ => none
  | n + 1, x2_6, x3_6, x4_6, S_6 =>
    if (gI S_6 5 0 5) ≤ x4_6 then (K_6 x2_6 x3_6 x4_6 S_6)
    else (if 0 ≤ x4_6 ∧ x4_6.toNatClampNeg < 6 then (bnd (F_X7_arrivesSafely S_6 (gI S_6 3 (6 * 0 + x4_6.toNatClampNeg) 4) a1) (fun r10 S11 =>
    if r10 = 0 then (L_X7_next_18 a1 K_6 n x2_6 x3_6 (x4_6 + 1) S11)
    else ((gR S11 5 0 8).elim none
    (fun p15 => bnd (F_X3_climb S11 (6 * 0 + x4_6.toNatClampNeg) p15 (gI S11 2 2 1) (gI S11 2 2 2)) (fun r18 S19 =>
    if x2_6 = (-5 : Int32) then (L_X7_next_18 a1 K_6 n x4_6 r18 (x4_6 + 1) S19)
    else (if r18 ≤ x3_6 then (L_X7_next_18 a1 K_6 n x2_6 x3_6 (x4_6 + 1) S19)
    else (L_X7_next_18 a1 K_6 n x4_6 r18 (x4_6 + 1) S19)))))))
    else none)
def F_X7_next (S : St) (a1 : Int32) : Option (Int32 × St) :=
  bnd (F_X7_isPace S a1) (fun r1 S2 =>
  if r1 = 0 then (some ((-2 : Int32), S2))
  else (L_X7_next_18 a1 
  (fun y2_6 y3_6 y4_6 T_6 => some (y2_6, T_6)) 1000 (-5 : Int32) (0 : Int32) (0 : Int32) S2))
set_option maxRecDepth 10000 in
theorem c_X7_next (l : Launch) {D : va_G} {cy : Nat → ClassId} {ad : Nat → Nat → Nat} {k : Nat} (hJ : wJ ad (nX k)) (S : St) (a1 : Int32) : CT l yX7_next cX7_next 7 (some .int) 4 D cy ad (nX k) toI okT [.ref (ad 7 0), .int a1] S (F_X7_next S a1) := by
  refine CT.of RX7 (by decide) rfl hJ (Nat.le_of_ble_eq_true rfl) rfl ?_
  intro p e s m below meth c cx
  unfold F_X7_next
  refine G_iload_n (q := 1) cx dX7_next_0 rfl rfl ?_
  refine G_callS (q := 4) (d' := 1) (As := [.int a1]) (rest := []) (stk := fun r1 => [.int r1]) cx dX7_next_1 rfl ml_RX7_162 rfl rfl (Nat.le_of_ble_eq_true rfl) (Nat.le_of_ble_eq_true rfl) (Nat.le_of_ble_eq_true rfl) (c_X7_isPace l hJ _ a1) (fun _ => rfl) (fun r1 S2 h3 o4 => ?_)
  refine G_if_ne (q := 7) (t := 10) cx dX7_next_4 rfl (by decide) (fun c5 => ?_) (fun c5 => ?_)
  · refine G_bipush (q := 12) (v := (-5 : Int32)) cx dX7_next_10 rfl (by decide) ?_
    refine G_istore_n (q := 13) (ls' := [(2, .int (-5 : Int32)), (0, .ref (ad 7 0)), (1, .int a1)]) cx dX7_next_12 rfl rfl (Nat.le_of_ble_eq_true rfl) rfl ?_
    refine G_iconst (q := 14) (v := (0 : Int32)) cx dX7_next_13 rfl (by decide) ?_
    refine G_istore_n (q := 15) (ls' := [(3, .int (0 : Int32)), (2, .int (-5 : Int32)), (0, .ref (ad 7 0)), (1, .int a1)]) cx dX7_next_14 rfl rfl (Nat.le_of_ble_eq_true rfl) rfl ?_
    refine G_iconst (q := 16) (v := (0 : Int32)) cx dX7_next_15 rfl (by decide) ?_
    refine G_istore (q := 18) (ls' := [(4, .int (0 : Int32)), (3, .int (0 : Int32)), (2, .int (-5 : Int32)), (0, .ref (ad 7 0)), (1, .int a1)]) cx dX7_next_16 rfl (Nat.le_of_ble_eq_true rfl) rfl ?_
    have lp_6 : ∀ (K_6 : Int32 → Int32 → Int32 → St → Option (Int32 × St)) (hK_6 : ∀ (y2_6 : Int32) (y3_6 : Int32) (y4_6 : Int32) (T_6 : St), TG p l e 4 s m ([.ref (ad 7 0), .int a1] : List Value).toArray below meth c D cy ad (nX k) toI okT T_6 107 [(2, .int y2_6), (3, .int y3_6), (4, .int y4_6), (0, .ref (ad 7 0)), (1, .int a1)] [] (K_6 y2_6 y3_6 y4_6 T_6)), ∀ (n_6 : Nat) (x2_6 : Int32) (x3_6 : Int32) (x4_6 : Int32) (S_6 : St), TG p l e 4 s m ([.ref (ad 7 0), .int a1] : List Value).toArray below meth c D cy ad (nX k) toI okT S_6 18 [(2, .int x2_6), (3, .int x3_6), (4, .int x4_6), (0, .ref (ad 7 0)), (1, .int a1)] [] (L_X7_next_18 a1 K_6 n_6 x2_6 x3_6 x4_6 S_6) := by
      intro K_6 hK_6 n_6
      induction n_6 with
      | zero => intros; exact G_none
      | succ n_6 ih_6 =>
        intro x2_6 x3_6 x4_6 S_6
        rw [L_X7_next_18.eq_2]
        refine G_iload (q := 20) cx dX7_next_18 rfl rfl ?_
        refine G_aload_n (q := 21) cx dX7_next_20 rfl rfl ?_
        refine G_getr (q := 24) (g := 5) (i' := 0) cx dX7_next_21 rfl cf_7 fl_RX7_23 (Nat.le_of_ble_eq_true rfl) rfl rfl (Nat.le_of_ble_eq_true rfl) ?_
        refine G_geti (q := 27) cx dX7_next_24 rfl cf_5 fl_RX7_81 (Nat.le_of_ble_eq_true rfl) rfl (Nat.le_of_ble_eq_true rfl) ?_
        refine G_icmp_ge (q := 30) (t := 107) cx dX7_next_27 rfl (by decide) (fun c7 => ?_) (fun c7 => ?_)
        · exact G_loc [0, 1, 2, 3, 4] rfl (hK_6 x2_6 x3_6 x4_6 S_6)
        refine G_aload_n (q := 31) cx dX7_next_30 rfl rfl ?_
        refine G_getr (q := 34) (g := 5) (i' := 0) cx dX7_next_31 rfl cf_7 fl_RX7_23 (Nat.le_of_ble_eq_true rfl) rfl rfl (Nat.le_of_ble_eq_true rfl) ?_
        refine G_getr (q := 37) (g := 12) (i' := 0) cx dX7_next_34 rfl cf_5 fl_RX7_84 (Nat.le_of_ble_eq_true rfl) rfl rfl (Nat.le_of_ble_eq_true rfl) ?_
        refine G_iload (q := 39) cx dX7_next_37 rfl rfl ?_
        refine G_aaldL (q := 40) cx dX7_next_39 rfl (Nat.le_of_ble_eq_true rfl) (fun g8 g9 => ?_)
        refine G_astore (q := 42) (ls' := [(5, .ref (ad 3 (6 * 0 + x4_6.toNatClampNeg))), (2, .int x2_6), (3, .int x3_6), (4, .int x4_6), (0, .ref (ad 7 0)), (1, .int a1)]) cx dX7_next_40 rfl (Nat.le_of_ble_eq_true rfl) rfl ?_
        refine G_aload_n (q := 43) cx dX7_next_42 rfl rfl ?_
        refine G_aload (q := 45) cx dX7_next_43 rfl rfl ?_
        refine G_geti (q := 48) cx dX7_next_45 rfl cf_3 fl_RX7_103 (Nat.le_of_ble_eq_true rfl) rfl (by show 6 * 0 + x4_6.toNatClampNeg < 12; omega) ?_
        refine G_iload_n (q := 49) cx dX7_next_48 rfl rfl ?_
        refine G_callV (q := 52) (d' := 2) (f := 7) (i := 0) (As := [.int (gI S_6 3 (6 * 0 + x4_6.toNatClampNeg) 4), .int a1]) (rest := []) (stk := fun r10 => [.int r10]) cx dX7_next_49 rfl cf_7 (Nat.le_of_ble_eq_true rfl) ml_RX7_189 rfl rfl (Nat.le_of_ble_eq_true rfl) (Nat.le_of_ble_eq_true rfl) (Nat.le_of_ble_eq_true rfl) (c_X7_arrivesSafely l hJ _ (gI S_6 3 (6 * 0 + x4_6.toNatClampNeg) 4) a1) (fun _ => rfl) (fun r10 S11 h12 o13 => ?_)
        refine G_if_eq (q := 55) (t := 101) cx dX7_next_52 rfl (by decide) (fun c14 => ?_) (fun c14 => ?_)
        · refine G_iinc (q := 104) (j := 3) (v := x4_6 + 1) (ls' := [(4, .int (x4_6 + 1)), (5, .ref (ad 3 (6 * 0 + x4_6.toNatClampNeg))), (2, .int x2_6), (3, .int x3_6), (0, .ref (ad 7 0)), (1, .int a1)]) cx dX7_next_101 rfl rfl rfl (Nat.le_of_ble_eq_true rfl) rfl ?_
          refine G_goto (t := 18) cx dX7_next_104 (by decide) ?_
          exact G_loc [2, 3, 0, 4, 5] rfl (ih_6 x2_6 x3_6 (x4_6 + 1) S11)
        refine G_aload (q := 57) cx dX7_next_55 rfl rfl ?_
        refine G_aload_n (q := 58) cx dX7_next_57 rfl rfl ?_
        refine G_getr (q := 61) (g := 5) (i' := 0) cx dX7_next_58 rfl cf_7 fl_RX7_23 (Nat.le_of_ble_eq_true rfl) rfl rfl (Nat.le_of_ble_eq_true rfl) ?_
        refine G_geta (q := 64) cx dX7_next_61 rfl cf_5 fl_RX7_109 (Nat.le_of_ble_eq_true rfl) rfl (Nat.le_of_ble_eq_true rfl) (fun e16 => ?_) (fun p15 e17 h_p15 => ?_)
        · exact G_none
        refine G_aload_n (q := 65) cx dX7_next_64 rfl rfl ?_
        refine G_getr (q := 68) (g := 2) (i' := 2) cx dX7_next_65 rfl cf_7 fl_RX7_33 (Nat.le_of_ble_eq_true rfl) rfl rfl (Nat.le_of_ble_eq_true rfl) ?_
        refine G_geti (q := 71) cx dX7_next_68 rfl cf_2 fl_RX7_115 (Nat.le_of_ble_eq_true rfl) rfl (Nat.le_of_ble_eq_true rfl) ?_
        refine G_aload_n (q := 72) cx dX7_next_71 rfl rfl ?_
        refine G_getr (q := 75) (g := 2) (i' := 2) cx dX7_next_72 rfl cf_7 fl_RX7_33 (Nat.le_of_ble_eq_true rfl) rfl rfl (Nat.le_of_ble_eq_true rfl) ?_
        refine G_geti (q := 78) cx dX7_next_75 rfl cf_2 fl_RX7_118 (Nat.le_of_ble_eq_true rfl) rfl (Nat.le_of_ble_eq_true rfl) ?_
        refine G_callV (q := 81) (d' := 3) (f := 3) (i := (6 * 0 + x4_6.toNatClampNeg)) (As := [.ref (ad 0 p15), .int (gI S11 2 2 1), .int (gI S11 2 2 2)]) (rest := []) (stk := fun r18 => [.int r18]) cx dX7_next_78 rfl cf_3 (by show 6 * 0 + x4_6.toNatClampNeg < 12; omega) ml_RX7_125 rfl rfl (Nat.le_of_ble_eq_true rfl) (Nat.le_of_ble_eq_true rfl) (Nat.le_of_ble_eq_true rfl) (c_X3_climb l hJ _ (6 * 0 + x4_6.toNatClampNeg) p15 (gI S11 2 2 1) (gI S11 2 2 2) (by show 6 * 0 + x4_6.toNatClampNeg < 12; omega) h_p15) (fun _ => rfl) (fun r18 S19 h20 o21 => ?_)
        refine G_istore (q := 83) (ls' := [(6, .int r18), (5, .ref (ad 3 (6 * 0 + x4_6.toNatClampNeg))), (2, .int x2_6), (3, .int x3_6), (4, .int x4_6), (0, .ref (ad 7 0)), (1, .int a1)]) cx dX7_next_81 rfl (Nat.le_of_ble_eq_true rfl) rfl ?_
        refine G_iload_n (q := 84) cx dX7_next_83 rfl rfl ?_
        refine G_bipush (q := 86) (v := (-5 : Int32)) cx dX7_next_84 rfl (by decide) ?_
        refine G_icmp_eq (q := 89) (t := 95) cx dX7_next_86 rfl (by decide) (fun c22 => ?_) (fun c22 => ?_)
        · refine G_iload (q := 97) cx dX7_next_95 rfl rfl ?_
          refine G_istore_n (q := 98) (ls' := [(2, .int x4_6), (6, .int r18), (5, .ref (ad 3 (6 * 0 + x4_6.toNatClampNeg))), (3, .int x3_6), (4, .int x4_6), (0, .ref (ad 7 0)), (1, .int a1)]) cx dX7_next_97 rfl rfl (Nat.le_of_ble_eq_true rfl) rfl ?_
          refine G_iload (q := 100) cx dX7_next_98 rfl rfl ?_
          refine G_istore_n (q := 101) (ls' := [(3, .int r18), (2, .int x4_6), (6, .int r18), (5, .ref (ad 3 (6 * 0 + x4_6.toNatClampNeg))), (4, .int x4_6), (0, .ref (ad 7 0)), (1, .int a1)]) cx dX7_next_100 rfl rfl (Nat.le_of_ble_eq_true rfl) rfl ?_
          refine G_iinc (q := 104) (j := 4) (v := x4_6 + 1) (ls' := [(4, .int (x4_6 + 1)), (3, .int r18), (2, .int x4_6), (6, .int r18), (5, .ref (ad 3 (6 * 0 + x4_6.toNatClampNeg))), (0, .ref (ad 7 0)), (1, .int a1)]) cx dX7_next_101 rfl rfl rfl (Nat.le_of_ble_eq_true rfl) rfl ?_
          refine G_goto (t := 18) cx dX7_next_104 (by decide) ?_
          exact G_loc [2, 1, 0, 5, 6] rfl (ih_6 x4_6 r18 (x4_6 + 1) S19)
        refine G_iload (q := 91) cx dX7_next_89 rfl rfl ?_
        refine G_iload_n (q := 92) cx dX7_next_91 rfl rfl ?_
        refine G_icmp_le (q := 95) (t := 101) cx dX7_next_92 rfl (by decide) (fun c23 => ?_) (fun c23 => ?_)
        · refine G_iinc (q := 104) (j := 4) (v := x4_6 + 1) (ls' := [(4, .int (x4_6 + 1)), (6, .int r18), (5, .ref (ad 3 (6 * 0 + x4_6.toNatClampNeg))), (2, .int x2_6), (3, .int x3_6), (0, .ref (ad 7 0)), (1, .int a1)]) cx dX7_next_101 rfl rfl rfl (Nat.le_of_ble_eq_true rfl) rfl ?_
          refine G_goto (t := 18) cx dX7_next_104 (by decide) ?_
          exact G_loc [3, 4, 0, 5, 6] rfl (ih_6 x2_6 x3_6 (x4_6 + 1) S19)
        refine G_iload (q := 97) cx dX7_next_95 rfl rfl ?_
        refine G_istore_n (q := 98) (ls' := [(2, .int x4_6), (6, .int r18), (5, .ref (ad 3 (6 * 0 + x4_6.toNatClampNeg))), (3, .int x3_6), (4, .int x4_6), (0, .ref (ad 7 0)), (1, .int a1)]) cx dX7_next_97 rfl rfl (Nat.le_of_ble_eq_true rfl) rfl ?_
        refine G_iload (q := 100) cx dX7_next_98 rfl rfl ?_
        refine G_istore_n (q := 101) (ls' := [(3, .int r18), (2, .int x4_6), (6, .int r18), (5, .ref (ad 3 (6 * 0 + x4_6.toNatClampNeg))), (4, .int x4_6), (0, .ref (ad 7 0)), (1, .int a1)]) cx dX7_next_100 rfl rfl (Nat.le_of_ble_eq_true rfl) rfl ?_
        refine G_iinc (q := 104) (j := 4) (v := x4_6 + 1) (ls' := [(4, .int (x4_6 + 1)), (3, .int r18), (2, .int x4_6), (6, .int r18), (5, .ref (ad 3 (6 * 0 + x4_6.toNatClampNeg))), (0, .ref (ad 7 0)), (1, .int a1)]) cx dX7_next_101 rfl rfl rfl (Nat.le_of_ble_eq_true rfl) rfl ?_
        refine G_goto (t := 18) cx dX7_next_104 (by decide) ?_
        exact G_loc [2, 1, 0, 5, 6] rfl (ih_6 x4_6 r18 (x4_6 + 1) S19)
    refine G_loc [2, 1, 0, 3, 4] rfl (lp_6 _ (fun y2_6 y3_6 y4_6 T_6 => ?_) 1000 (-5 : Int32) (0 : Int32) (0 : Int32) S2)
    refine G_iload_n (q := 108) cx dX7_next_107 rfl rfl ?_
    exact G_iret cx rfl dX7_next_108 trivial
  · refine G_bipush (q := 9) (v := (-2 : Int32)) cx dX7_next_7 rfl (by decide) ?_
    exact G_iret cx rfl dX7_next_9 trivial
def F_X7_heightFor (S : St) (a1 : Int32) (a2 : Int32) (a3 : Int32) : Option (Int32 × St) :=
  bnd (F_X2_sinkOfMile S a3) (fun r1 S2 =>
  (gR S2 5 0 8).elim none
  (fun p5 => some (((if 0 ≤ (a2 - a1) then (a2 - a1) else 0 - (a2 - a1)) * r1) + (gI S2 0 p5 3), S2)))
set_option maxRecDepth 10000 in
theorem c_X7_heightFor (l : Launch) {D : va_G} {cy : Nat → ClassId} {ad : Nat → Nat → Nat} {k : Nat} (hJ : wJ ad (nX k)) (S : St) (a1 : Int32) (a2 : Int32) (a3 : Int32) : CT l yX7_heightFor cX7_heightFor 4 (some .int) 1 D cy ad (nX k) toI okT [.ref (ad 7 0), .int a1, .int a2, .int a3] S (F_X7_heightFor S a1 a2 a3) := by
  refine CT.of RX7 (by decide) rfl hJ (Nat.le_of_ble_eq_true rfl) rfl ?_
  intro p e s m below meth c cx
  unfold F_X7_heightFor
  refine G_iload_n (q := 1) cx dX7_heightFor_0 rfl rfl ?_
  refine G_iload_n (q := 2) cx dX7_heightFor_1 rfl rfl ?_
  refine G_isub (q := 3) cx dX7_heightFor_2 rfl ?_
  refine G_mabs (q := 6) cx dX7_heightFor_3 rfl ml_RX7_177 (Nat.le_of_ble_eq_true rfl) (Nat.le_of_ble_eq_true rfl) ?_
  refine G_iload_n (q := 7) cx dX7_heightFor_6 rfl rfl ?_
  refine G_callS (q := 10) (d' := 0) (As := [.int a3]) (rest := [.int (if 0 ≤ (a2 - a1) then (a2 - a1) else 0 - (a2 - a1))]) (stk := fun r1 => [.int r1, .int (if 0 ≤ (a2 - a1) then (a2 - a1) else 0 - (a2 - a1))]) cx dX7_heightFor_7 rfl ml_RX7_183 rfl rfl (Nat.le_of_ble_eq_true rfl) (Nat.le_of_ble_eq_true rfl) (Nat.le_of_ble_eq_true rfl) (c_X2_sinkOfMile l hJ _ a3) (fun _ => rfl) (fun r1 S2 h3 o4 => ?_)
  refine G_imul (q := 11) cx dX7_heightFor_10 rfl ?_
  refine G_aload_n (q := 12) cx dX7_heightFor_11 rfl rfl ?_
  refine G_getr (q := 15) (g := 5) (i' := 0) cx dX7_heightFor_12 rfl cf_7 fl_RX7_23 (Nat.le_of_ble_eq_true rfl) rfl rfl (Nat.le_of_ble_eq_true rfl) ?_
  refine G_geta (q := 18) cx dX7_heightFor_15 rfl cf_5 fl_RX7_109 (Nat.le_of_ble_eq_true rfl) rfl (Nat.le_of_ble_eq_true rfl) (fun e6 => ?_) (fun p5 e7 h_p5 => ?_)
  · exact G_none
  · refine G_geti (q := 21) cx dX7_heightFor_18 rfl cf_0 fl_RX7_155 (Nat.le_of_ble_eq_true rfl) rfl h_p5 ?_
    refine G_iadd (q := 22) cx dX7_heightFor_21 rfl ?_
    exact G_iret cx rfl dX7_heightFor_22 trivial
