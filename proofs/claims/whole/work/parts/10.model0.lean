def F_X8_in (S : St) (a1 : Int32) (a2 : Int32) (a3 : Int32) : Option (Int32 × St) :=
  if a1 < a2 then (some ((0 : Int32), S))
  else (if a3 < a1 then (some ((0 : Int32), S))
  else (some ((1 : Int32), S)))
set_option maxRecDepth 10000 in
theorem c_X8_in (l : Launch) {D : va_G} {cy : Nat → ClassId} {ad : Nat → Nat → Nat} (hJ : wJ ad nM) (S : St) (a1 : Int32) (a2 : Int32) (a3 : Int32) : CT l yX8_in cX8_in 4 (some .boolean) 0 D cy ad nM toI okZ [.ref (ad 8 0), .int a1, .int a2, .int a3] S (F_X8_in S a1 a2 a3) := by
  refine CT.of RX8 (by decide) rfl hJ (Nat.le_of_ble_eq_true rfl) rfl ?_
  intro p e s m below meth c cx
  unfold F_X8_in
  refine G_iload_n (q := 1) cx dX8_in_0 rfl rfl ?_
  refine G_iload_n (q := 2) cx dX8_in_1 rfl rfl ?_
  refine G_icmp_lt (q := 5) (t := 14) cx dX8_in_2 rfl (by decide) (fun c1 => ?_) (fun c1 => ?_)
  · refine G_iconst (q := 15) (v := (0 : Int32)) cx dX8_in_14 rfl (by decide) ?_
    exact G_zret (ty := .boolean) cx rfl dX8_in_15 rfl rfl
  refine G_iload_n (q := 6) cx dX8_in_5 rfl rfl ?_
  refine G_iload_n (q := 7) cx dX8_in_6 rfl rfl ?_
  refine G_icmp_gt (q := 10) (t := 14) cx dX8_in_7 rfl (by decide) (fun c2 => ?_) (fun c2 => ?_)
  · refine G_iconst (q := 15) (v := (0 : Int32)) cx dX8_in_14 rfl (by decide) ?_
    exact G_zret (ty := .boolean) cx rfl dX8_in_15 rfl rfl
  · refine G_iconst (q := 11) (v := (1 : Int32)) cx dX8_in_10 rfl (by decide) ?_
    refine G_goto (t := 15) cx dX8_in_11 (by decide) ?_
    exact G_zret (ty := .boolean) cx rfl dX8_in_15 rfl rfl
def F_X8_apart (S : St) (a1 : Int32) (a2 : Int32) : Option (Int32 × St) :=
  if a2 ≤ a1 then (some (a1 - a2, S))
  else (some (a2 - a1, S))
set_option maxRecDepth 10000 in
theorem c_X8_apart (l : Launch) {D : va_G} {cy : Nat → ClassId} {ad : Nat → Nat → Nat} (hJ : wJ ad nM) (S : St) (a1 : Int32) (a2 : Int32) : CT l yX8_apart cX8_apart 3 (some .int) 0 D cy ad nM toI okT [.ref (ad 8 0), .int a1, .int a2] S (F_X8_apart S a1 a2) := by
  refine CT.of RX8 (by decide) rfl hJ (Nat.le_of_ble_eq_true rfl) rfl ?_
  intro p e s m below meth c cx
  unfold F_X8_apart
  refine G_iload_n (q := 1) cx dX8_apart_0 rfl rfl ?_
  refine G_iload_n (q := 2) cx dX8_apart_1 rfl rfl ?_
  refine G_icmp_ge (q := 5) (t := 11) cx dX8_apart_2 rfl (by decide) (fun c1 => ?_) (fun c1 => ?_)
  · refine G_iload_n (q := 12) cx dX8_apart_11 rfl rfl ?_
    refine G_iload_n (q := 13) cx dX8_apart_12 rfl rfl ?_
    refine G_isub (q := 14) cx dX8_apart_13 rfl ?_
    exact G_iret cx rfl dX8_apart_14 trivial
  refine G_iload_n (q := 6) cx dX8_apart_5 rfl rfl ?_
  refine G_iload_n (q := 7) cx dX8_apart_6 rfl rfl ?_
  refine G_isub (q := 8) cx dX8_apart_7 rfl ?_
  refine G_goto (t := 14) cx dX8_apart_8 (by decide) ?_
  exact G_iret cx rfl dX8_apart_14 trivial
def F_X8_isLift (S : St) (a1 : Int32) : Option (Int32 × St) :=
  bnd (F_X8_in S a1 (0 : Int32) ((gI S 8 0 0) - (1 : Int32))) (fun r1 S2 =>
  some (r1, S2))
set_option maxRecDepth 10000 in
theorem c_X8_isLift (l : Launch) {D : va_G} {cy : Nat → ClassId} {ad : Nat → Nat → Nat} (hJ : wJ ad nM) (S : St) (a1 : Int32) : CT l yX8_isLift cX8_isLift 2 (some .boolean) 1 D cy ad nM toI okZ [.ref (ad 8 0), .int a1] S (F_X8_isLift S a1) := by
  refine CT.of RX8 (by decide) rfl hJ (Nat.le_of_ble_eq_true rfl) rfl ?_
  intro p e s m below meth c cx
  unfold F_X8_isLift
  refine G_aload_n (q := 1) cx dX8_isLift_0 rfl rfl ?_
  refine G_iload_n (q := 2) cx dX8_isLift_1 rfl rfl ?_
  refine G_iconst (q := 3) (v := (0 : Int32)) cx dX8_isLift_2 rfl (by decide) ?_
  refine G_aload_n (q := 4) cx dX8_isLift_3 rfl rfl ?_
  refine G_geti (q := 7) cx dX8_isLift_4 rfl cf_8 fl_RX8_7 (Nat.le_of_ble_eq_true rfl) rfl (Nat.le_of_ble_eq_true rfl) ?_
  refine G_iconst (q := 8) (v := (1 : Int32)) cx dX8_isLift_7 rfl (by decide) ?_
  refine G_isub (q := 9) cx dX8_isLift_8 rfl ?_
  refine G_callV (q := 12) (d' := 0) (f := 8) (i := 0) (As := [.int a1, .int (0 : Int32), .int ((gI S 8 0 0) - (1 : Int32))]) (rest := []) (stk := fun r1 => [.int r1]) cx dX8_isLift_9 rfl cf_8 (Nat.le_of_ble_eq_true rfl) ml_RX8_227 rfl rfl (Nat.le_of_ble_eq_true rfl) (Nat.le_of_ble_eq_true rfl) (Nat.le_of_ble_eq_true rfl) (c_X8_in l hJ  _ a1 (0 : Int32) ((gI S 8 0 0) - (1 : Int32))) (fun _ => rfl) (fun r1 S2 h3 o4 => ?_)
  exact G_zret (ty := .boolean) cx rfl dX8_isLift_12 o4 o4
def F_X8_isMile (S : St) (a1 : Int32) : Option (Int32 × St) :=
  bnd (F_X8_in S a1 (0 : Int32) (99 : Int32)) (fun r1 S2 =>
  some (r1, S2))
set_option maxRecDepth 10000 in
theorem c_X8_isMile (l : Launch) {D : va_G} {cy : Nat → ClassId} {ad : Nat → Nat → Nat} (hJ : wJ ad nM) (S : St) (a1 : Int32) : CT l yX8_isMile cX8_isMile 2 (some .boolean) 1 D cy ad nM toI okZ [.ref (ad 8 0), .int a1] S (F_X8_isMile S a1) := by
  refine CT.of RX8 (by decide) rfl hJ (Nat.le_of_ble_eq_true rfl) rfl ?_
  intro p e s m below meth c cx
  unfold F_X8_isMile
  refine G_aload_n (q := 1) cx dX8_isMile_0 rfl rfl ?_
  refine G_iload_n (q := 2) cx dX8_isMile_1 rfl rfl ?_
  refine G_iconst (q := 3) (v := (0 : Int32)) cx dX8_isMile_2 rfl (by decide) ?_
  refine G_bipush (q := 5) (v := (99 : Int32)) cx dX8_isMile_3 rfl (by decide) ?_
  refine G_callV (q := 8) (d' := 0) (f := 8) (i := 0) (As := [.int a1, .int (0 : Int32), .int (99 : Int32)]) (rest := []) (stk := fun r1 => [.int r1]) cx dX8_isMile_5 rfl cf_8 (Nat.le_of_ble_eq_true rfl) ml_RX8_227 rfl rfl (Nat.le_of_ble_eq_true rfl) (Nat.le_of_ble_eq_true rfl) (Nat.le_of_ble_eq_true rfl) (c_X8_in l hJ  _ a1 (0 : Int32) (99 : Int32)) (fun _ => rfl) (fun r1 S2 h3 o4 => ?_)
  exact G_zret (ty := .boolean) cx rfl dX8_isMile_8 o4 o4
def F_X8_isPace (S : St) (a1 : Int32) : Option (Int32 × St) :=
  bnd (F_X8_in S a1 (1 : Int32) (9 : Int32)) (fun r1 S2 =>
  some (r1, S2))
set_option maxRecDepth 10000 in
theorem c_X8_isPace (l : Launch) {D : va_G} {cy : Nat → ClassId} {ad : Nat → Nat → Nat} (hJ : wJ ad nM) (S : St) (a1 : Int32) : CT l yX8_isPace cX8_isPace 2 (some .boolean) 1 D cy ad nM toI okZ [.ref (ad 8 0), .int a1] S (F_X8_isPace S a1) := by
  refine CT.of RX8 (by decide) rfl hJ (Nat.le_of_ble_eq_true rfl) rfl ?_
  intro p e s m below meth c cx
  unfold F_X8_isPace
  refine G_aload_n (q := 1) cx dX8_isPace_0 rfl rfl ?_
  refine G_iload_n (q := 2) cx dX8_isPace_1 rfl rfl ?_
  refine G_iconst (q := 3) (v := (1 : Int32)) cx dX8_isPace_2 rfl (by decide) ?_
  refine G_bipush (q := 5) (v := (9 : Int32)) cx dX8_isPace_3 rfl (by decide) ?_
  refine G_callV (q := 8) (d' := 0) (f := 8) (i := 0) (As := [.int a1, .int (1 : Int32), .int (9 : Int32)]) (rest := []) (stk := fun r1 => [.int r1]) cx dX8_isPace_5 rfl cf_8 (Nat.le_of_ble_eq_true rfl) ml_RX8_227 rfl rfl (Nat.le_of_ble_eq_true rfl) (Nat.le_of_ble_eq_true rfl) (Nat.le_of_ble_eq_true rfl) (c_X8_in l hJ  _ a1 (1 : Int32) (9 : Int32)) (fun _ => rfl) (fun r1 S2 h3 o4 => ?_)
  exact G_zret (ty := .boolean) cx rfl dX8_isPace_8 o4 o4
def F_X8_isTime (S : St) (a1 : Int32) : Option (Int32 × St) :=
  bnd (F_X8_in S a1 (0 : Int32) (60 : Int32)) (fun r1 S2 =>
  some (r1, S2))
set_option maxRecDepth 10000 in
theorem c_X8_isTime (l : Launch) {D : va_G} {cy : Nat → ClassId} {ad : Nat → Nat → Nat} (hJ : wJ ad nM) (S : St) (a1 : Int32) : CT l yX8_isTime cX8_isTime 2 (some .boolean) 1 D cy ad nM toI okZ [.ref (ad 8 0), .int a1] S (F_X8_isTime S a1) := by
  refine CT.of RX8 (by decide) rfl hJ (Nat.le_of_ble_eq_true rfl) rfl ?_
  intro p e s m below meth c cx
  unfold F_X8_isTime
  refine G_aload_n (q := 1) cx dX8_isTime_0 rfl rfl ?_
  refine G_iload_n (q := 2) cx dX8_isTime_1 rfl rfl ?_
  refine G_iconst (q := 3) (v := (0 : Int32)) cx dX8_isTime_2 rfl (by decide) ?_
  refine G_bipush (q := 5) (v := (60 : Int32)) cx dX8_isTime_3 rfl (by decide) ?_
  refine G_callV (q := 8) (d' := 0) (f := 8) (i := 0) (As := [.int a1, .int (0 : Int32), .int (60 : Int32)]) (rest := []) (stk := fun r1 => [.int r1]) cx dX8_isTime_5 rfl cf_8 (Nat.le_of_ble_eq_true rfl) ml_RX8_227 rfl rfl (Nat.le_of_ble_eq_true rfl) (Nat.le_of_ble_eq_true rfl) (Nat.le_of_ble_eq_true rfl) (c_X8_in l hJ  _ a1 (0 : Int32) (60 : Int32)) (fun _ => rfl) (fun r1 S2 h3 o4 => ?_)
  exact G_zret (ty := .boolean) cx rfl dX8_isTime_8 o4 o4
def L_X8_lift_103 (K_30 : Int32 → St → Option (Int32 × St)) : Nat → Int32 → St → Option (Int32 × St)
  | 0, _, _ => none
  | n + 1, x5_30, S_30 =>
    if (4 : Int32) ≤ x5_30 then (K_30 x5_30 S_30)
    else (if 0 ≤ (((4 : Int32) * (gI S_30 8 0 0)) + x5_30) ∧ (((4 : Int32) * (gI S_30 8 0 0)) + x5_30).toNatClampNeg < 24 then (L_X8_lift_103 K_30 n (x5_30 + 1) (sI S_30 26 0 (((4 : Int32) * (gI S_30 8 0 0)) + x5_30).toNatClampNeg (0 : Int32)))
    else none)
def F_X8_lift (S : St) (a1 : Int32) (a2 : Int32) (a3 : Int32) (a4 : Int32) : Option (Int32 × St) :=
  bnd (F_X8_in S a1 (0 : Int32) (6 : Int32)) (fun r1 S2 =>
  if r1 = 0 then (some ((-1 : Int32), S2))
  else (bnd (F_X8_in S2 a2 (0 : Int32) (9 : Int32)) (fun r6 S7 =>
  if r6 = 0 then (some ((-2 : Int32), S7))
  else (bnd (F_X8_isMile S7 a3) (fun r11 S12 =>
  if r11 = 0 then (some ((-2 : Int32), S12))
  else (bnd (F_X8_in S12 a4 (0 : Int32) (20 : Int32)) (fun r16 S17 =>
  if r16 = 0 then (some ((-2 : Int32), S17))
  else (if (gI S17 8 0 0) = (6 : Int32) then (some ((-4 : Int32), S17))
  else (if 0 ≤ (gI S17 8 0 0) ∧ (gI S17 8 0 0).toNatClampNeg < 6 then (if 0 ≤ (gI (sI S17 22 0 (gI S17 8 0 0).toNatClampNeg a1) 8 0 0) ∧ (gI (sI S17 22 0 (gI S17 8 0 0).toNatClampNeg a1) 8 0 0).toNatClampNeg < 6 then (if 0 ≤ (gI (sI (sI S17 22 0 (gI S17 8 0 0).toNatClampNeg a1) 23 0 (gI (sI S17 22 0 (gI S17 8 0 0).toNatClampNeg a1) 8 0 0).toNatClampNeg a2) 8 0 0) ∧ (gI (sI (sI S17 22 0 (gI S17 8 0 0).toNatClampNeg a1) 23 0 (gI (sI S17 22 0 (gI S17 8 0 0).toNatClampNeg a1) 8 0 0).toNatClampNeg a2) 8 0 0).toNatClampNeg < 6 then (if 0 ≤ (gI (sI (sI (sI S17 22 0 (gI S17 8 0 0).toNatClampNeg a1) 23 0 (gI (sI S17 22 0 (gI S17 8 0 0).toNatClampNeg a1) 8 0 0).toNatClampNeg a2) 24 0 (gI (sI (sI S17 22 0 (gI S17 8 0 0).toNatClampNeg a1) 23 0 (gI (sI S17 22 0 (gI S17 8 0 0).toNatClampNeg a1) 8 0 0).toNatClampNeg a2) 8 0 0).toNatClampNeg a3) 8 0 0) ∧ (gI (sI (sI (sI S17 22 0 (gI S17 8 0 0).toNatClampNeg a1) 23 0 (gI (sI S17 22 0 (gI S17 8 0 0).toNatClampNeg a1) 8 0 0).toNatClampNeg a2) 24 0 (gI (sI (sI S17 22 0 (gI S17 8 0 0).toNatClampNeg a1) 23 0 (gI (sI S17 22 0 (gI S17 8 0 0).toNatClampNeg a1) 8 0 0).toNatClampNeg a2) 8 0 0).toNatClampNeg a3) 8 0 0).toNatClampNeg < 6 then (L_X8_lift_103 
  (fun y5_30 T_30 => some ((gI (sI T_30 8 0 0 ((gI T_30 8 0 0) + (1 : Int32))) 8 0 0) - (1 : Int32), (sI T_30 8 0 0 ((gI T_30 8 0 0) + (1 : Int32))))) 1000 (0 : Int32) (sI (sI (sI (sI S17 22 0 (gI S17 8 0 0).toNatClampNeg a1) 23 0 (gI (sI S17 22 0 (gI S17 8 0 0).toNatClampNeg a1) 8 0 0).toNatClampNeg a2) 24 0 (gI (sI (sI S17 22 0 (gI S17 8 0 0).toNatClampNeg a1) 23 0 (gI (sI S17 22 0 (gI S17 8 0 0).toNatClampNeg a1) 8 0 0).toNatClampNeg a2) 8 0 0).toNatClampNeg a3) 25 0 (gI (sI (sI (sI S17 22 0 (gI S17 8 0 0).toNatClampNeg a1) 23 0 (gI (sI S17 22 0 (gI S17 8 0 0).toNatClampNeg a1) 8 0 0).toNatClampNeg a2) 24 0 (gI (sI (sI S17 22 0 (gI S17 8 0 0).toNatClampNeg a1) 23 0 (gI (sI S17 22 0 (gI S17 8 0 0).toNatClampNeg a1) 8 0 0).toNatClampNeg a2) 8 0 0).toNatClampNeg a3) 8 0 0).toNatClampNeg a4))
  else none)
  else none)
  else none)
  else none)))))))))
set_option maxRecDepth 10000 in
theorem c_X8_lift (l : Launch) {D : va_G} {cy : Nat → ClassId} {ad : Nat → Nat → Nat} (hJ : wJ ad nM) (S : St) (a1 : Int32) (a2 : Int32) (a3 : Int32) (a4 : Int32) : CT l yX8_lift cX8_lift 6 (some .int) 2 D cy ad nM toI okT [.ref (ad 8 0), .int a1, .int a2, .int a3, .int a4] S (F_X8_lift S a1 a2 a3 a4) := by
  refine CT.of RX8 (by decide) rfl hJ (Nat.le_of_ble_eq_true rfl) rfl ?_
  intro p e s m below meth c cx
  unfold F_X8_lift
  refine G_aload_n (q := 1) cx dX8_lift_0 rfl rfl ?_
  refine G_iload_n (q := 2) cx dX8_lift_1 rfl rfl ?_
  refine G_iconst (q := 3) (v := (0 : Int32)) cx dX8_lift_2 rfl (by decide) ?_
  refine G_bipush (q := 5) (v := (6 : Int32)) cx dX8_lift_3 rfl (by decide) ?_
  refine G_callV (q := 8) (d' := 0) (f := 8) (i := 0) (As := [.int a1, .int (0 : Int32), .int (6 : Int32)]) (rest := []) (stk := fun r1 => [.int r1]) cx dX8_lift_5 rfl cf_8 (Nat.le_of_ble_eq_true rfl) ml_RX8_227 rfl rfl (Nat.le_of_ble_eq_true rfl) (Nat.le_of_ble_eq_true rfl) (Nat.le_of_ble_eq_true rfl) (c_X8_in l hJ  _ a1 (0 : Int32) (6 : Int32)) (fun _ => rfl) (fun r1 S2 h3 o4 => ?_)
  refine G_if_ne (q := 11) (t := 13) cx dX8_lift_8 rfl (by decide) (fun c5 => ?_) (fun c5 => ?_)
  · refine G_aload_n (q := 14) cx dX8_lift_13 rfl rfl ?_
    refine G_iload_n (q := 15) cx dX8_lift_14 rfl rfl ?_
    refine G_iconst (q := 16) (v := (0 : Int32)) cx dX8_lift_15 rfl (by decide) ?_
    refine G_bipush (q := 18) (v := (9 : Int32)) cx dX8_lift_16 rfl (by decide) ?_
    refine G_callV (q := 21) (d' := 0) (f := 8) (i := 0) (As := [.int a2, .int (0 : Int32), .int (9 : Int32)]) (rest := []) (stk := fun r6 => [.int r6]) cx dX8_lift_18 rfl cf_8 (Nat.le_of_ble_eq_true rfl) ml_RX8_227 rfl rfl (Nat.le_of_ble_eq_true rfl) (Nat.le_of_ble_eq_true rfl) (Nat.le_of_ble_eq_true rfl) (c_X8_in l hJ  _ a2 (0 : Int32) (9 : Int32)) (fun _ => rfl) (fun r6 S7 h8 o9 => ?_)
    refine G_if_eq (q := 24) (t := 44) cx dX8_lift_21 rfl (by decide) (fun c10 => ?_) (fun c10 => ?_)
    · refine G_bipush (q := 46) (v := (-2 : Int32)) cx dX8_lift_44 rfl (by decide) ?_
      exact G_iret cx rfl dX8_lift_46 trivial
    refine G_aload_n (q := 25) cx dX8_lift_24 rfl rfl ?_
    refine G_iload_n (q := 26) cx dX8_lift_25 rfl rfl ?_
    refine G_callV (q := 29) (d' := 1) (f := 8) (i := 0) (As := [.int a3]) (rest := []) (stk := fun r11 => [.int r11]) cx dX8_lift_26 rfl cf_8 (Nat.le_of_ble_eq_true rfl) ml_RX8_231 rfl rfl (Nat.le_of_ble_eq_true rfl) (Nat.le_of_ble_eq_true rfl) (Nat.le_of_ble_eq_true rfl) (c_X8_isMile l hJ  _ a3) (fun _ => rfl) (fun r11 S12 h13 o14 => ?_)
    refine G_if_eq (q := 32) (t := 44) cx dX8_lift_29 rfl (by decide) (fun c15 => ?_) (fun c15 => ?_)
    · refine G_bipush (q := 46) (v := (-2 : Int32)) cx dX8_lift_44 rfl (by decide) ?_
      exact G_iret cx rfl dX8_lift_46 trivial
    refine G_aload_n (q := 33) cx dX8_lift_32 rfl rfl ?_
    refine G_iload (q := 35) cx dX8_lift_33 rfl rfl ?_
    refine G_iconst (q := 36) (v := (0 : Int32)) cx dX8_lift_35 rfl (by decide) ?_
    refine G_bipush (q := 38) (v := (20 : Int32)) cx dX8_lift_36 rfl (by decide) ?_
    refine G_callV (q := 41) (d' := 0) (f := 8) (i := 0) (As := [.int a4, .int (0 : Int32), .int (20 : Int32)]) (rest := []) (stk := fun r16 => [.int r16]) cx dX8_lift_38 rfl cf_8 (Nat.le_of_ble_eq_true rfl) ml_RX8_227 rfl rfl (Nat.le_of_ble_eq_true rfl) (Nat.le_of_ble_eq_true rfl) (Nat.le_of_ble_eq_true rfl) (c_X8_in l hJ  _ a4 (0 : Int32) (20 : Int32)) (fun _ => rfl) (fun r16 S17 h18 o19 => ?_)
    refine G_if_ne (q := 44) (t := 47) cx dX8_lift_41 rfl (by decide) (fun c20 => ?_) (fun c20 => ?_)
    · refine G_aload_n (q := 48) cx dX8_lift_47 rfl rfl ?_
      refine G_geti (q := 51) cx dX8_lift_48 rfl cf_8 fl_RX8_7 (Nat.le_of_ble_eq_true rfl) rfl (Nat.le_of_ble_eq_true rfl) ?_
      refine G_bipush (q := 53) (v := (6 : Int32)) cx dX8_lift_51 rfl (by decide) ?_
      refine G_icmp_ne (q := 56) (t := 59) cx dX8_lift_53 rfl (by decide) (fun c21 => ?_) (fun c21 => ?_)
      · refine G_aload_n (q := 60) cx dX8_lift_59 rfl rfl ?_
        refine G_getr (q := 63) (g := 22) (i' := 0) cx dX8_lift_60 rfl cf_8 fl_RX8_28 (Nat.le_of_ble_eq_true rfl) rfl rfl (Nat.le_of_ble_eq_true rfl) ?_
        refine G_aload_n (q := 64) cx dX8_lift_63 rfl rfl ?_
        refine G_geti (q := 67) cx dX8_lift_64 rfl cf_8 fl_RX8_7 (Nat.le_of_ble_eq_true rfl) rfl (Nat.le_of_ble_eq_true rfl) ?_
        refine G_iload_n (q := 68) cx dX8_lift_67 rfl rfl ?_
        refine G_iast (q := 69) cx dX8_lift_68 rfl (by decide) rfl rfl (Nat.le_of_ble_eq_true rfl) (fun g22 g23 => ?_)
        refine G_aload_n (q := 70) cx dX8_lift_69 rfl rfl ?_
        refine G_getr (q := 73) (g := 23) (i' := 0) cx dX8_lift_70 rfl cf_8 fl_RX8_32 (Nat.le_of_ble_eq_true rfl) rfl rfl (Nat.le_of_ble_eq_true rfl) ?_
        refine G_aload_n (q := 74) cx dX8_lift_73 rfl rfl ?_
        refine G_geti (q := 77) cx dX8_lift_74 rfl cf_8 fl_RX8_7 (Nat.le_of_ble_eq_true rfl) rfl (Nat.le_of_ble_eq_true rfl) ?_
        refine G_iload_n (q := 78) cx dX8_lift_77 rfl rfl ?_
        refine G_iast (q := 79) cx dX8_lift_78 rfl (by decide) rfl rfl (Nat.le_of_ble_eq_true rfl) (fun g24 g25 => ?_)
        refine G_aload_n (q := 80) cx dX8_lift_79 rfl rfl ?_
        refine G_getr (q := 83) (g := 24) (i' := 0) cx dX8_lift_80 rfl cf_8 fl_RX8_35 (Nat.le_of_ble_eq_true rfl) rfl rfl (Nat.le_of_ble_eq_true rfl) ?_
        refine G_aload_n (q := 84) cx dX8_lift_83 rfl rfl ?_
        refine G_geti (q := 87) cx dX8_lift_84 rfl cf_8 fl_RX8_7 (Nat.le_of_ble_eq_true rfl) rfl (Nat.le_of_ble_eq_true rfl) ?_
        refine G_iload_n (q := 88) cx dX8_lift_87 rfl rfl ?_
        refine G_iast (q := 89) cx dX8_lift_88 rfl (by decide) rfl rfl (Nat.le_of_ble_eq_true rfl) (fun g26 g27 => ?_)
        refine G_aload_n (q := 90) cx dX8_lift_89 rfl rfl ?_
        refine G_getr (q := 93) (g := 25) (i' := 0) cx dX8_lift_90 rfl cf_8 fl_RX8_38 (Nat.le_of_ble_eq_true rfl) rfl rfl (Nat.le_of_ble_eq_true rfl) ?_
        refine G_aload_n (q := 94) cx dX8_lift_93 rfl rfl ?_
        refine G_geti (q := 97) cx dX8_lift_94 rfl cf_8 fl_RX8_7 (Nat.le_of_ble_eq_true rfl) rfl (Nat.le_of_ble_eq_true rfl) ?_
        refine G_iload (q := 99) cx dX8_lift_97 rfl rfl ?_
        refine G_iast (q := 100) cx dX8_lift_99 rfl (by decide) rfl rfl (Nat.le_of_ble_eq_true rfl) (fun g28 g29 => ?_)
        refine G_iconst (q := 101) (v := (0 : Int32)) cx dX8_lift_100 rfl (by decide) ?_
        refine G_istore (q := 103) (ls' := [(5, .int (0 : Int32)), (0, .ref (ad 8 0)), (1, .int a1), (2, .int a2), (3, .int a3), (4, .int a4)]) cx dX8_lift_101 rfl (Nat.le_of_ble_eq_true rfl) rfl ?_
        have lp_30 : ∀ (K_30 : Int32 → St → Option (Int32 × St)) (hK_30 : ∀ (y5_30 : Int32) (T_30 : St), TG p l e 2 s m ([.ref (ad 8 0), .int a1, .int a2, .int a3, .int a4] : List Value).toArray below meth c D cy ad nM toI okT T_30 130 [(5, .int y5_30), (0, .ref (ad 8 0)), (1, .int a1), (2, .int a2), (3, .int a3), (4, .int a4)] [] (K_30 y5_30 T_30)), ∀ (n_30 : Nat) (x5_30 : Int32) (S_30 : St), TG p l e 2 s m ([.ref (ad 8 0), .int a1, .int a2, .int a3, .int a4] : List Value).toArray below meth c D cy ad nM toI okT S_30 103 [(5, .int x5_30), (0, .ref (ad 8 0)), (1, .int a1), (2, .int a2), (3, .int a3), (4, .int a4)] [] (L_X8_lift_103 K_30 n_30 x5_30 S_30) := by
          intro K_30 hK_30 n_30
          induction n_30 with
          | zero => intros; exact G_none
          | succ n_30 ih_30 =>
            intro x5_30 S_30
            rw [L_X8_lift_103.eq_2]
            refine G_iload (q := 105) cx dX8_lift_103 rfl rfl ?_
            refine G_iconst (q := 106) (v := (4 : Int32)) cx dX8_lift_105 rfl (by decide) ?_
            refine G_icmp_ge (q := 109) (t := 130) cx dX8_lift_106 rfl (by decide) (fun c31 => ?_) (fun c31 => ?_)
            · exact G_loc [0, 1, 2, 3, 4, 5] rfl (hK_30 x5_30 S_30)
            refine G_aload_n (q := 110) cx dX8_lift_109 rfl rfl ?_
            refine G_getr (q := 113) (g := 26) (i' := 0) cx dX8_lift_110 rfl cf_8 fl_RX8_41 (Nat.le_of_ble_eq_true rfl) rfl rfl (Nat.le_of_ble_eq_true rfl) ?_
            refine G_iconst (q := 114) (v := (4 : Int32)) cx dX8_lift_113 rfl (by decide) ?_
            refine G_aload_n (q := 115) cx dX8_lift_114 rfl rfl ?_
            refine G_geti (q := 118) cx dX8_lift_115 rfl cf_8 fl_RX8_7 (Nat.le_of_ble_eq_true rfl) rfl (Nat.le_of_ble_eq_true rfl) ?_
            refine G_imul (q := 119) cx dX8_lift_118 rfl ?_
            refine G_iload (q := 121) cx dX8_lift_119 rfl rfl ?_
            refine G_iadd (q := 122) cx dX8_lift_121 rfl ?_
            refine G_iconst (q := 123) (v := (0 : Int32)) cx dX8_lift_122 rfl (by decide) ?_
            refine G_iast (q := 124) cx dX8_lift_123 rfl (by decide) rfl rfl (Nat.le_of_ble_eq_true rfl) (fun g32 g33 => ?_)
            refine G_iinc (q := 127) (j := 0) (v := x5_30 + 1) (ls' := [(5, .int (x5_30 + 1)), (0, .ref (ad 8 0)), (1, .int a1), (2, .int a2), (3, .int a3), (4, .int a4)]) cx dX8_lift_124 rfl rfl rfl (Nat.le_of_ble_eq_true rfl) rfl ?_
            refine G_goto (t := 103) cx dX8_lift_127 (by decide) ?_
            exact G_loc [0, 1, 2, 3, 4, 5] rfl (ih_30 (x5_30 + 1) (sI S_30 26 0 (((4 : Int32) * (gI S_30 8 0 0)) + x5_30).toNatClampNeg (0 : Int32)))
        refine G_loc [0, 1, 2, 3, 4, 5] rfl (lp_30 _ (fun y5_30 T_30 => ?_) 1000 (0 : Int32) (sI (sI (sI (sI S17 22 0 (gI S17 8 0 0).toNatClampNeg a1) 23 0 (gI (sI S17 22 0 (gI S17 8 0 0).toNatClampNeg a1) 8 0 0).toNatClampNeg a2) 24 0 (gI (sI (sI S17 22 0 (gI S17 8 0 0).toNatClampNeg a1) 23 0 (gI (sI S17 22 0 (gI S17 8 0 0).toNatClampNeg a1) 8 0 0).toNatClampNeg a2) 8 0 0).toNatClampNeg a3) 25 0 (gI (sI (sI (sI S17 22 0 (gI S17 8 0 0).toNatClampNeg a1) 23 0 (gI (sI S17 22 0 (gI S17 8 0 0).toNatClampNeg a1) 8 0 0).toNatClampNeg a2) 24 0 (gI (sI (sI S17 22 0 (gI S17 8 0 0).toNatClampNeg a1) 23 0 (gI (sI S17 22 0 (gI S17 8 0 0).toNatClampNeg a1) 8 0 0).toNatClampNeg a2) 8 0 0).toNatClampNeg a3) 8 0 0).toNatClampNeg a4))
        refine G_aload_n (q := 131) cx dX8_lift_130 rfl rfl ?_
        refine G_dup (q := 132) cx dX8_lift_131 rfl rfl ?_
        refine G_geti (q := 135) cx dX8_lift_132 rfl cf_8 fl_RX8_7 (Nat.le_of_ble_eq_true rfl) rfl (Nat.le_of_ble_eq_true rfl) ?_
        refine G_iconst (q := 136) (v := (1 : Int32)) cx dX8_lift_135 rfl (by decide) ?_
        refine G_iadd (q := 137) cx dX8_lift_136 rfl ?_
        refine G_puti (q := 140) cx dX8_lift_137 rfl cf_8 fl_RX8_7 (Nat.le_of_ble_eq_true rfl) rfl rfl rfl rfl rfl (Nat.le_of_ble_eq_true rfl) ?_
        refine G_aload_n (q := 141) cx dX8_lift_140 rfl rfl ?_
        refine G_geti (q := 144) cx dX8_lift_141 rfl cf_8 fl_RX8_7 (Nat.le_of_ble_eq_true rfl) rfl (Nat.le_of_ble_eq_true rfl) ?_
        refine G_iconst (q := 145) (v := (1 : Int32)) cx dX8_lift_144 rfl (by decide) ?_
        refine G_isub (q := 146) cx dX8_lift_145 rfl ?_
        exact G_iret cx rfl dX8_lift_146 trivial
      · refine G_bipush (q := 58) (v := (-4 : Int32)) cx dX8_lift_56 rfl (by decide) ?_
        exact G_iret cx rfl dX8_lift_58 trivial
    · refine G_bipush (q := 46) (v := (-2 : Int32)) cx dX8_lift_44 rfl (by decide) ?_
      exact G_iret cx rfl dX8_lift_46 trivial
  · refine G_iconst (q := 12) (v := (-1 : Int32)) cx dX8_lift_11 rfl (by decide) ?_
    exact G_iret cx rfl dX8_lift_12 trivial
def F_X8_pull (S : St) (a1 : Int32) (a2 : Int32) : Option (Int32 × St) :=
  bnd (F_X8_isLift S a1) (fun r1 S2 =>
  if r1 = 0 then (some ((-1 : Int32), S2))
  else (bnd (F_X8_in S2 a2 (0 : Int32) (20 : Int32)) (fun r6 S7 =>
  if r6 = 0 then (some ((-2 : Int32), S7))
  else (if 0 ≤ a1 ∧ a1.toNatClampNeg < 6 then (if 0 ≤ a1 ∧ a1.toNatClampNeg < 6 then (some (gI S7 25 0 a1.toNatClampNeg, (sI S7 25 0 a1.toNatClampNeg a2)))
  else none)
  else none))))
set_option maxRecDepth 10000 in
theorem c_X8_pull (l : Launch) {D : va_G} {cy : Nat → ClassId} {ad : Nat → Nat → Nat} (hJ : wJ ad nM) (S : St) (a1 : Int32) (a2 : Int32) : CT l yX8_pull cX8_pull 4 (some .int) 2 D cy ad nM toI okT [.ref (ad 8 0), .int a1, .int a2] S (F_X8_pull S a1 a2) := by
  refine CT.of RX8 (by decide) rfl hJ (Nat.le_of_ble_eq_true rfl) rfl ?_
  intro p e s m below meth c cx
  unfold F_X8_pull
  refine G_aload_n (q := 1) cx dX8_pull_0 rfl rfl ?_
  refine G_iload_n (q := 2) cx dX8_pull_1 rfl rfl ?_
  refine G_callV (q := 5) (d' := 1) (f := 8) (i := 0) (As := [.int a1]) (rest := []) (stk := fun r1 => [.int r1]) cx dX8_pull_2 rfl cf_8 (Nat.le_of_ble_eq_true rfl) ml_RX8_235 rfl rfl (Nat.le_of_ble_eq_true rfl) (Nat.le_of_ble_eq_true rfl) (Nat.le_of_ble_eq_true rfl) (c_X8_isLift l hJ  _ a1) (fun _ => rfl) (fun r1 S2 h3 o4 => ?_)
  refine G_if_ne (q := 8) (t := 10) cx dX8_pull_5 rfl (by decide) (fun c5 => ?_) (fun c5 => ?_)
  · refine G_aload_n (q := 11) cx dX8_pull_10 rfl rfl ?_
    refine G_iload_n (q := 12) cx dX8_pull_11 rfl rfl ?_
    refine G_iconst (q := 13) (v := (0 : Int32)) cx dX8_pull_12 rfl (by decide) ?_
    refine G_bipush (q := 15) (v := (20 : Int32)) cx dX8_pull_13 rfl (by decide) ?_
    refine G_callV (q := 18) (d' := 0) (f := 8) (i := 0) (As := [.int a2, .int (0 : Int32), .int (20 : Int32)]) (rest := []) (stk := fun r6 => [.int r6]) cx dX8_pull_15 rfl cf_8 (Nat.le_of_ble_eq_true rfl) ml_RX8_227 rfl rfl (Nat.le_of_ble_eq_true rfl) (Nat.le_of_ble_eq_true rfl) (Nat.le_of_ble_eq_true rfl) (c_X8_in l hJ  _ a2 (0 : Int32) (20 : Int32)) (fun _ => rfl) (fun r6 S7 h8 o9 => ?_)
    refine G_if_ne (q := 21) (t := 24) cx dX8_pull_18 rfl (by decide) (fun c10 => ?_) (fun c10 => ?_)
    · refine G_aload_n (q := 25) cx dX8_pull_24 rfl rfl ?_
      refine G_getr (q := 28) (g := 25) (i' := 0) cx dX8_pull_25 rfl cf_8 fl_RX8_38 (Nat.le_of_ble_eq_true rfl) rfl rfl (Nat.le_of_ble_eq_true rfl) ?_
      refine G_iload_n (q := 29) cx dX8_pull_28 rfl rfl ?_
      refine G_iald (q := 30) cx dX8_pull_29 rfl (by decide) rfl rfl (Nat.le_of_ble_eq_true rfl) (fun g11 g12 => ?_)
      refine G_istore_n (q := 31) (ls' := [(3, .int (gI S7 25 0 a1.toNatClampNeg)), (0, .ref (ad 8 0)), (1, .int a1), (2, .int a2)]) cx dX8_pull_30 rfl rfl (Nat.le_of_ble_eq_true rfl) rfl ?_
      refine G_aload_n (q := 32) cx dX8_pull_31 rfl rfl ?_
      refine G_getr (q := 35) (g := 25) (i' := 0) cx dX8_pull_32 rfl cf_8 fl_RX8_38 (Nat.le_of_ble_eq_true rfl) rfl rfl (Nat.le_of_ble_eq_true rfl) ?_
      refine G_iload_n (q := 36) cx dX8_pull_35 rfl rfl ?_
      refine G_iload_n (q := 37) cx dX8_pull_36 rfl rfl ?_
      refine G_iast (q := 38) cx dX8_pull_37 rfl (by decide) rfl rfl (Nat.le_of_ble_eq_true rfl) (fun g13 g14 => ?_)
      refine G_iload_n (q := 39) cx dX8_pull_38 rfl rfl ?_
      exact G_iret cx rfl dX8_pull_39 trivial
    · refine G_bipush (q := 23) (v := (-2 : Int32)) cx dX8_pull_21 rfl (by decide) ?_
      exact G_iret cx rfl dX8_pull_23 trivial
  · refine G_iconst (q := 9) (v := (-1 : Int32)) cx dX8_pull_8 rfl (by decide) ?_
    exact G_iret cx rfl dX8_pull_9 trivial
def F_X8_row (S : St) (a1 : Int32) (a2 : Int32) (a3 : Int32) : Option (Int32 × St) :=
  bnd (F_X8_isLift S a1) (fun r1 S2 =>
  if r1 = 0 then (some ((-1 : Int32), S2))
  else (bnd (F_X8_in S2 a2 (0 : Int32) (3 : Int32)) (fun r6 S7 =>
  if r6 = 0 then (some ((-1 : Int32), S7))
  else (bnd (F_X8_in S7 a3 (0 : Int32) (9 : Int32)) (fun r11 S12 =>
  if r11 = 0 then (some ((-2 : Int32), S12))
  else (if 0 ≤ a1 ∧ a1.toNatClampNeg < 6 then (if (gI S12 22 0 a1.toNatClampNeg) = (6 : Int32) then (if 0 ≤ (((4 : Int32) * a1) + a2) ∧ (((4 : Int32) * a1) + a2).toNatClampNeg < 24 then (if 0 ≤ (((4 : Int32) * a1) + a2) ∧ (((4 : Int32) * a1) + a2).toNatClampNeg < 24 then (some (gI S12 26 0 (((4 : Int32) * a1) + a2).toNatClampNeg, (sI S12 26 0 (((4 : Int32) * a1) + a2).toNatClampNeg a3)))
  else none)
  else none)
  else (some ((-3 : Int32), S12)))
  else none))))))
set_option maxRecDepth 10000 in
theorem c_X8_row (l : Launch) {D : va_G} {cy : Nat → ClassId} {ad : Nat → Nat → Nat} (hJ : wJ ad nM) (S : St) (a1 : Int32) (a2 : Int32) (a3 : Int32) : CT l yX8_row cX8_row 5 (some .int) 2 D cy ad nM toI okT [.ref (ad 8 0), .int a1, .int a2, .int a3] S (F_X8_row S a1 a2 a3) := by
  refine CT.of RX8 (by decide) rfl hJ (Nat.le_of_ble_eq_true rfl) rfl ?_
  intro p e s m below meth c cx
  unfold F_X8_row
  refine G_aload_n (q := 1) cx dX8_row_0 rfl rfl ?_
  refine G_iload_n (q := 2) cx dX8_row_1 rfl rfl ?_
  refine G_callV (q := 5) (d' := 1) (f := 8) (i := 0) (As := [.int a1]) (rest := []) (stk := fun r1 => [.int r1]) cx dX8_row_2 rfl cf_8 (Nat.le_of_ble_eq_true rfl) ml_RX8_235 rfl rfl (Nat.le_of_ble_eq_true rfl) (Nat.le_of_ble_eq_true rfl) (Nat.le_of_ble_eq_true rfl) (c_X8_isLift l hJ  _ a1) (fun _ => rfl) (fun r1 S2 h3 o4 => ?_)
  refine G_if_eq (q := 8) (t := 18) cx dX8_row_5 rfl (by decide) (fun c5 => ?_) (fun c5 => ?_)
  · refine G_iconst (q := 19) (v := (-1 : Int32)) cx dX8_row_18 rfl (by decide) ?_
    exact G_iret cx rfl dX8_row_19 trivial
  refine G_aload_n (q := 9) cx dX8_row_8 rfl rfl ?_
  refine G_iload_n (q := 10) cx dX8_row_9 rfl rfl ?_
  refine G_iconst (q := 11) (v := (0 : Int32)) cx dX8_row_10 rfl (by decide) ?_
  refine G_iconst (q := 12) (v := (3 : Int32)) cx dX8_row_11 rfl (by decide) ?_
  refine G_callV (q := 15) (d' := 0) (f := 8) (i := 0) (As := [.int a2, .int (0 : Int32), .int (3 : Int32)]) (rest := []) (stk := fun r6 => [.int r6]) cx dX8_row_12 rfl cf_8 (Nat.le_of_ble_eq_true rfl) ml_RX8_227 rfl rfl (Nat.le_of_ble_eq_true rfl) (Nat.le_of_ble_eq_true rfl) (Nat.le_of_ble_eq_true rfl) (c_X8_in l hJ  _ a2 (0 : Int32) (3 : Int32)) (fun _ => rfl) (fun r6 S7 h8 o9 => ?_)
  refine G_if_ne (q := 18) (t := 20) cx dX8_row_15 rfl (by decide) (fun c10 => ?_) (fun c10 => ?_)
  · refine G_aload_n (q := 21) cx dX8_row_20 rfl rfl ?_
    refine G_iload_n (q := 22) cx dX8_row_21 rfl rfl ?_
    refine G_iconst (q := 23) (v := (0 : Int32)) cx dX8_row_22 rfl (by decide) ?_
    refine G_bipush (q := 25) (v := (9 : Int32)) cx dX8_row_23 rfl (by decide) ?_
    refine G_callV (q := 28) (d' := 0) (f := 8) (i := 0) (As := [.int a3, .int (0 : Int32), .int (9 : Int32)]) (rest := []) (stk := fun r11 => [.int r11]) cx dX8_row_25 rfl cf_8 (Nat.le_of_ble_eq_true rfl) ml_RX8_227 rfl rfl (Nat.le_of_ble_eq_true rfl) (Nat.le_of_ble_eq_true rfl) (Nat.le_of_ble_eq_true rfl) (c_X8_in l hJ  _ a3 (0 : Int32) (9 : Int32)) (fun _ => rfl) (fun r11 S12 h13 o14 => ?_)
    refine G_if_ne (q := 31) (t := 34) cx dX8_row_28 rfl (by decide) (fun c15 => ?_) (fun c15 => ?_)
    · refine G_aload_n (q := 35) cx dX8_row_34 rfl rfl ?_
      refine G_getr (q := 38) (g := 22) (i' := 0) cx dX8_row_35 rfl cf_8 fl_RX8_28 (Nat.le_of_ble_eq_true rfl) rfl rfl (Nat.le_of_ble_eq_true rfl) ?_
      refine G_iload_n (q := 39) cx dX8_row_38 rfl rfl ?_
      refine G_iald (q := 40) cx dX8_row_39 rfl (by decide) rfl rfl (Nat.le_of_ble_eq_true rfl) (fun g16 g17 => ?_)
      refine G_bipush (q := 42) (v := (6 : Int32)) cx dX8_row_40 rfl (by decide) ?_
      refine G_icmp_eq (q := 45) (t := 48) cx dX8_row_42 rfl (by decide) (fun c18 => ?_) (fun c18 => ?_)
      · refine G_aload_n (q := 49) cx dX8_row_48 rfl rfl ?_
        refine G_getr (q := 52) (g := 26) (i' := 0) cx dX8_row_49 rfl cf_8 fl_RX8_41 (Nat.le_of_ble_eq_true rfl) rfl rfl (Nat.le_of_ble_eq_true rfl) ?_
        refine G_iconst (q := 53) (v := (4 : Int32)) cx dX8_row_52 rfl (by decide) ?_
        refine G_iload_n (q := 54) cx dX8_row_53 rfl rfl ?_
        refine G_imul (q := 55) cx dX8_row_54 rfl ?_
        refine G_iload_n (q := 56) cx dX8_row_55 rfl rfl ?_
        refine G_iadd (q := 57) cx dX8_row_56 rfl ?_
        refine G_iald (q := 58) cx dX8_row_57 rfl (by decide) rfl rfl (Nat.le_of_ble_eq_true rfl) (fun g19 g20 => ?_)
        refine G_istore (q := 60) (ls' := [(4, .int (gI S12 26 0 (((4 : Int32) * a1) + a2).toNatClampNeg)), (0, .ref (ad 8 0)), (1, .int a1), (2, .int a2), (3, .int a3)]) cx dX8_row_58 rfl (Nat.le_of_ble_eq_true rfl) rfl ?_
        refine G_aload_n (q := 61) cx dX8_row_60 rfl rfl ?_
        refine G_getr (q := 64) (g := 26) (i' := 0) cx dX8_row_61 rfl cf_8 fl_RX8_41 (Nat.le_of_ble_eq_true rfl) rfl rfl (Nat.le_of_ble_eq_true rfl) ?_
        refine G_iconst (q := 65) (v := (4 : Int32)) cx dX8_row_64 rfl (by decide) ?_
        refine G_iload_n (q := 66) cx dX8_row_65 rfl rfl ?_
        refine G_imul (q := 67) cx dX8_row_66 rfl ?_
        refine G_iload_n (q := 68) cx dX8_row_67 rfl rfl ?_
        refine G_iadd (q := 69) cx dX8_row_68 rfl ?_
        refine G_iload_n (q := 70) cx dX8_row_69 rfl rfl ?_
        refine G_iast (q := 71) cx dX8_row_70 rfl (by decide) rfl rfl (Nat.le_of_ble_eq_true rfl) (fun g21 g22 => ?_)
        refine G_iload (q := 73) cx dX8_row_71 rfl rfl ?_
        exact G_iret cx rfl dX8_row_73 trivial
      · refine G_bipush (q := 47) (v := (-3 : Int32)) cx dX8_row_45 rfl (by decide) ?_
        exact G_iret cx rfl dX8_row_47 trivial
    · refine G_bipush (q := 33) (v := (-2 : Int32)) cx dX8_row_31 rfl (by decide) ?_
      exact G_iret cx rfl dX8_row_33 trivial
  · refine G_iconst (q := 19) (v := (-1 : Int32)) cx dX8_row_18 rfl (by decide) ?_
    exact G_iret cx rfl dX8_row_19 trivial
def F_X8_home (S : St) (a1 : Int32) : Option (Int32 × St) :=
  bnd (F_X8_isMile S a1) (fun r1 S2 =>
  if r1 = 0 then (some ((-2 : Int32), S2))
  else (some (gI S2 8 0 5, (sI S2 8 0 5 a1))))
set_option maxRecDepth 10000 in
theorem c_X8_home (l : Launch) {D : va_G} {cy : Nat → ClassId} {ad : Nat → Nat → Nat} (hJ : wJ ad nM) (S : St) (a1 : Int32) : CT l yX8_home cX8_home 3 (some .int) 2 D cy ad nM toI okT [.ref (ad 8 0), .int a1] S (F_X8_home S a1) := by
  refine CT.of RX8 (by decide) rfl hJ (Nat.le_of_ble_eq_true rfl) rfl ?_
  intro p e s m below meth c cx
  unfold F_X8_home
  refine G_aload_n (q := 1) cx dX8_home_0 rfl rfl ?_
  refine G_iload_n (q := 2) cx dX8_home_1 rfl rfl ?_
  refine G_callV (q := 5) (d' := 1) (f := 8) (i := 0) (As := [.int a1]) (rest := []) (stk := fun r1 => [.int r1]) cx dX8_home_2 rfl cf_8 (Nat.le_of_ble_eq_true rfl) ml_RX8_231 rfl rfl (Nat.le_of_ble_eq_true rfl) (Nat.le_of_ble_eq_true rfl) (Nat.le_of_ble_eq_true rfl) (c_X8_isMile l hJ  _ a1) (fun _ => rfl) (fun r1 S2 h3 o4 => ?_)
  refine G_if_ne (q := 8) (t := 11) cx dX8_home_5 rfl (by decide) (fun c5 => ?_) (fun c5 => ?_)
  · refine G_aload_n (q := 12) cx dX8_home_11 rfl rfl ?_
    refine G_geti (q := 15) cx dX8_home_12 rfl cf_8 fl_RX8_25 (Nat.le_of_ble_eq_true rfl) rfl (Nat.le_of_ble_eq_true rfl) ?_
    refine G_istore_n (q := 16) (ls' := [(2, .int (gI S2 8 0 5)), (0, .ref (ad 8 0)), (1, .int a1)]) cx dX8_home_15 rfl rfl (Nat.le_of_ble_eq_true rfl) rfl ?_
    refine G_aload_n (q := 17) cx dX8_home_16 rfl rfl ?_
    refine G_iload_n (q := 18) cx dX8_home_17 rfl rfl ?_
    refine G_puti (q := 21) cx dX8_home_18 rfl cf_8 fl_RX8_25 (Nat.le_of_ble_eq_true rfl) rfl rfl rfl rfl rfl (Nat.le_of_ble_eq_true rfl) ?_
    refine G_iload_n (q := 22) cx dX8_home_21 rfl rfl ?_
    exact G_iret cx rfl dX8_home_22 trivial
  · refine G_bipush (q := 10) (v := (-2 : Int32)) cx dX8_home_8 rfl (by decide) ?_
    exact G_iret cx rfl dX8_home_10 trivial
def F_X8_height (S : St) (a1 : Int32) : Option (Int32 × St) :=
  bnd (F_X8_in S a1 (0 : Int32) (400 : Int32)) (fun r1 S2 =>
  if r1 = 0 then (some ((-2 : Int32), S2))
  else (some (gI S2 8 0 3, (sI S2 8 0 3 a1))))
set_option maxRecDepth 10000 in
theorem c_X8_height (l : Launch) {D : va_G} {cy : Nat → ClassId} {ad : Nat → Nat → Nat} (hJ : wJ ad nM) (S : St) (a1 : Int32) : CT l yX8_height cX8_height 3 (some .int) 1 D cy ad nM toI okT [.ref (ad 8 0), .int a1] S (F_X8_height S a1) := by
  refine CT.of RX8 (by decide) rfl hJ (Nat.le_of_ble_eq_true rfl) rfl ?_
  intro p e s m below meth c cx
  unfold F_X8_height
  refine G_aload_n (q := 1) cx dX8_height_0 rfl rfl ?_
  refine G_iload_n (q := 2) cx dX8_height_1 rfl rfl ?_
  refine G_iconst (q := 3) (v := (0 : Int32)) cx dX8_height_2 rfl (by decide) ?_
  refine G_sipush (q := 6) (v := (400 : Int32)) cx dX8_height_3 rfl (by decide) ?_
  refine G_callV (q := 9) (d' := 0) (f := 8) (i := 0) (As := [.int a1, .int (0 : Int32), .int (400 : Int32)]) (rest := []) (stk := fun r1 => [.int r1]) cx dX8_height_6 rfl cf_8 (Nat.le_of_ble_eq_true rfl) ml_RX8_227 rfl rfl (Nat.le_of_ble_eq_true rfl) (Nat.le_of_ble_eq_true rfl) (Nat.le_of_ble_eq_true rfl) (c_X8_in l hJ  _ a1 (0 : Int32) (400 : Int32)) (fun _ => rfl) (fun r1 S2 h3 o4 => ?_)
  refine G_if_ne (q := 12) (t := 15) cx dX8_height_9 rfl (by decide) (fun c5 => ?_) (fun c5 => ?_)
  · refine G_aload_n (q := 16) cx dX8_height_15 rfl rfl ?_
    refine G_geti (q := 19) cx dX8_height_16 rfl cf_8 fl_RX8_19 (Nat.le_of_ble_eq_true rfl) rfl (Nat.le_of_ble_eq_true rfl) ?_
    refine G_istore_n (q := 20) (ls' := [(2, .int (gI S2 8 0 3)), (0, .ref (ad 8 0)), (1, .int a1)]) cx dX8_height_19 rfl rfl (Nat.le_of_ble_eq_true rfl) rfl ?_
    refine G_aload_n (q := 21) cx dX8_height_20 rfl rfl ?_
    refine G_iload_n (q := 22) cx dX8_height_21 rfl rfl ?_
    refine G_puti (q := 25) cx dX8_height_22 rfl cf_8 fl_RX8_19 (Nat.le_of_ble_eq_true rfl) rfl rfl rfl rfl rfl (Nat.le_of_ble_eq_true rfl) ?_
    refine G_iload_n (q := 26) cx dX8_height_25 rfl rfl ?_
    exact G_iret cx rfl dX8_height_26 trivial
  · refine G_bipush (q := 14) (v := (-2 : Int32)) cx dX8_height_12 rfl (by decide) ?_
    exact G_iret cx rfl dX8_height_14 trivial
def F_X8_feed (S : St) (a1 : Int32) : Option (Int32 × St) :=
  bnd (F_X8_in S a1 (0 : Int32) (127 : Int32)) (fun r1 S2 =>
  if r1 = 0 then (some ((-2 : Int32), S2))
  else (if (gI S2 8 0 13) = (100 : Int32) then (some ((-4 : Int32), S2))
  else (if 0 ≤ (gI S2 8 0 13) ∧ (gI S2 8 0 13).toNatClampNeg < 100 then (some (gI (sI (sI S2 27 0 (gI S2 8 0 13).toNatClampNeg a1) 8 0 13 ((gI (sI S2 27 0 (gI S2 8 0 13).toNatClampNeg a1) 8 0 13) + (1 : Int32))) 8 0 13, (sI (sI S2 27 0 (gI S2 8 0 13).toNatClampNeg a1) 8 0 13 ((gI (sI S2 27 0 (gI S2 8 0 13).toNatClampNeg a1) 8 0 13) + (1 : Int32)))))
  else none)))
set_option maxRecDepth 10000 in
theorem c_X8_feed (l : Launch) {D : va_G} {cy : Nat → ClassId} {ad : Nat → Nat → Nat} (hJ : wJ ad nM) (S : St) (a1 : Int32) : CT l yX8_feed cX8_feed 2 (some .int) 1 D cy ad nM toI okT [.ref (ad 8 0), .int a1] S (F_X8_feed S a1) := by
  refine CT.of RX8 (by decide) rfl hJ (Nat.le_of_ble_eq_true rfl) rfl ?_
  intro p e s m below meth c cx
  unfold F_X8_feed
  refine G_aload_n (q := 1) cx dX8_feed_0 rfl rfl ?_
  refine G_iload_n (q := 2) cx dX8_feed_1 rfl rfl ?_
  refine G_iconst (q := 3) (v := (0 : Int32)) cx dX8_feed_2 rfl (by decide) ?_
  refine G_bipush (q := 5) (v := (127 : Int32)) cx dX8_feed_3 rfl (by decide) ?_
  refine G_callV (q := 8) (d' := 0) (f := 8) (i := 0) (As := [.int a1, .int (0 : Int32), .int (127 : Int32)]) (rest := []) (stk := fun r1 => [.int r1]) cx dX8_feed_5 rfl cf_8 (Nat.le_of_ble_eq_true rfl) ml_RX8_227 rfl rfl (Nat.le_of_ble_eq_true rfl) (Nat.le_of_ble_eq_true rfl) (Nat.le_of_ble_eq_true rfl) (c_X8_in l hJ  _ a1 (0 : Int32) (127 : Int32)) (fun _ => rfl) (fun r1 S2 h3 o4 => ?_)
  refine G_if_ne (q := 11) (t := 14) cx dX8_feed_8 rfl (by decide) (fun c5 => ?_) (fun c5 => ?_)
  · refine G_aload_n (q := 15) cx dX8_feed_14 rfl rfl ?_
    refine G_geti (q := 18) cx dX8_feed_15 rfl cf_8 fl_RX8_50 (Nat.le_of_ble_eq_true rfl) rfl (Nat.le_of_ble_eq_true rfl) ?_
    refine G_bipush (q := 20) (v := (100 : Int32)) cx dX8_feed_18 rfl (by decide) ?_
    refine G_icmp_ne (q := 23) (t := 26) cx dX8_feed_20 rfl (by decide) (fun c6 => ?_) (fun c6 => ?_)
    · refine G_aload_n (q := 27) cx dX8_feed_26 rfl rfl ?_
      refine G_getr (q := 30) (g := 27) (i' := 0) cx dX8_feed_27 rfl cf_8 fl_RX8_59 (Nat.le_of_ble_eq_true rfl) rfl rfl (Nat.le_of_ble_eq_true rfl) ?_
      refine G_aload_n (q := 31) cx dX8_feed_30 rfl rfl ?_
      refine G_geti (q := 34) cx dX8_feed_31 rfl cf_8 fl_RX8_50 (Nat.le_of_ble_eq_true rfl) rfl (Nat.le_of_ble_eq_true rfl) ?_
      refine G_iload_n (q := 35) cx dX8_feed_34 rfl rfl ?_
      refine G_iast (q := 36) cx dX8_feed_35 rfl (by decide) rfl rfl (Nat.le_of_ble_eq_true rfl) (fun g7 g8 => ?_)
      refine G_aload_n (q := 37) cx dX8_feed_36 rfl rfl ?_
      refine G_dup (q := 38) cx dX8_feed_37 rfl rfl ?_
      refine G_geti (q := 41) cx dX8_feed_38 rfl cf_8 fl_RX8_50 (Nat.le_of_ble_eq_true rfl) rfl (Nat.le_of_ble_eq_true rfl) ?_
      refine G_iconst (q := 42) (v := (1 : Int32)) cx dX8_feed_41 rfl (by decide) ?_
      refine G_iadd (q := 43) cx dX8_feed_42 rfl ?_
      refine G_puti (q := 46) cx dX8_feed_43 rfl cf_8 fl_RX8_50 (Nat.le_of_ble_eq_true rfl) rfl rfl rfl rfl rfl (Nat.le_of_ble_eq_true rfl) ?_
      refine G_aload_n (q := 47) cx dX8_feed_46 rfl rfl ?_
      refine G_geti (q := 50) cx dX8_feed_47 rfl cf_8 fl_RX8_50 (Nat.le_of_ble_eq_true rfl) rfl (Nat.le_of_ble_eq_true rfl) ?_
      exact G_iret cx rfl dX8_feed_50 trivial
    · refine G_bipush (q := 25) (v := (-4 : Int32)) cx dX8_feed_23 rfl (by decide) ?_
      exact G_iret cx rfl dX8_feed_25 trivial
  · refine G_bipush (q := 13) (v := (-2 : Int32)) cx dX8_feed_11 rfl (by decide) ?_
    exact G_iret cx rfl dX8_feed_13 trivial
def F_X8_peek (S : St) : Option (Int32 × St) :=
  if (gI S 8 0 13) ≤ (gI S 8 0 14) then (some ((-1 : Int32), S))
  else (if 0 ≤ (gI S 8 0 14) ∧ (gI S 8 0 14).toNatClampNeg < 100 then (some (gI S 27 0 (gI S 8 0 14).toNatClampNeg, S))
  else none)
set_option maxRecDepth 10000 in
theorem c_X8_peek (l : Launch) {D : va_G} {cy : Nat → ClassId} {ad : Nat → Nat → Nat} (hJ : wJ ad nM) (S : St) : CT l yX8_peek cX8_peek 1 (some .int) 0 D cy ad nM toI okT [.ref (ad 8 0)] S (F_X8_peek S) := by
  refine CT.of RX8 (by decide) rfl hJ (Nat.le_of_ble_eq_true rfl) rfl ?_
  intro p e s m below meth c cx
  unfold F_X8_peek
  refine G_aload_n (q := 1) cx dX8_peek_0 rfl rfl ?_
  refine G_geti (q := 4) cx dX8_peek_1 rfl cf_8 fl_RX8_53 (Nat.le_of_ble_eq_true rfl) rfl (Nat.le_of_ble_eq_true rfl) ?_
  refine G_aload_n (q := 5) cx dX8_peek_4 rfl rfl ?_
  refine G_geti (q := 8) cx dX8_peek_5 rfl cf_8 fl_RX8_50 (Nat.le_of_ble_eq_true rfl) rfl (Nat.le_of_ble_eq_true rfl) ?_
  refine G_icmp_ge (q := 11) (t := 23) cx dX8_peek_8 rfl (by decide) (fun c1 => ?_) (fun c1 => ?_)
  · refine G_iconst (q := 24) (v := (-1 : Int32)) cx dX8_peek_23 rfl (by decide) ?_
    exact G_iret cx rfl dX8_peek_24 trivial
  refine G_aload_n (q := 12) cx dX8_peek_11 rfl rfl ?_
  refine G_getr (q := 15) (g := 27) (i' := 0) cx dX8_peek_12 rfl cf_8 fl_RX8_59 (Nat.le_of_ble_eq_true rfl) rfl rfl (Nat.le_of_ble_eq_true rfl) ?_
  refine G_aload_n (q := 16) cx dX8_peek_15 rfl rfl ?_
  refine G_geti (q := 19) cx dX8_peek_16 rfl cf_8 fl_RX8_53 (Nat.le_of_ble_eq_true rfl) rfl (Nat.le_of_ble_eq_true rfl) ?_
  refine G_iald (q := 20) cx dX8_peek_19 rfl (by decide) rfl rfl (Nat.le_of_ble_eq_true rfl) (fun g2 g3 => ?_)
  refine G_goto (t := 24) cx dX8_peek_20 (by decide) ?_
  exact G_iret cx rfl dX8_peek_24 trivial
def F_X8_takes (S : St) (a1 : Int32) : Option (Int32 × St) :=
  bnd (F_X8_peek S) (fun r1 S2 =>
  if r1 = a1 then (some ((1 : Int32), (sI S2 8 0 14 ((gI S2 8 0 14) + (1 : Int32)))))
  else (some ((0 : Int32), S2)))
set_option maxRecDepth 10000 in
theorem c_X8_takes (l : Launch) {D : va_G} {cy : Nat → ClassId} {ad : Nat → Nat → Nat} (hJ : wJ ad nM) (S : St) (a1 : Int32) : CT l yX8_takes cX8_takes 2 (some .boolean) 1 D cy ad nM toI okZ [.ref (ad 8 0), .int a1] S (F_X8_takes S a1) := by
  refine CT.of RX8 (by decide) rfl hJ (Nat.le_of_ble_eq_true rfl) rfl ?_
  intro p e s m below meth c cx
  unfold F_X8_takes
  refine G_aload_n (q := 1) cx dX8_takes_0 rfl rfl ?_
  refine G_callV (q := 4) (d' := 0) (f := 8) (i := 0) (As := []) (rest := []) (stk := fun r1 => [.int r1]) cx dX8_takes_1 rfl cf_8 (Nat.le_of_ble_eq_true rfl) ml_RX8_238 rfl rfl (Nat.le_of_ble_eq_true rfl) (Nat.le_of_ble_eq_true rfl) (Nat.le_of_ble_eq_true rfl) (c_X8_peek l hJ  _) (fun _ => rfl) (fun r1 S2 h3 o4 => ?_)
  refine G_iload_n (q := 5) cx dX8_takes_4 rfl rfl ?_
  refine G_icmp_eq (q := 8) (t := 10) cx dX8_takes_5 rfl (by decide) (fun c5 => ?_) (fun c5 => ?_)
  · refine G_aload_n (q := 11) cx dX8_takes_10 rfl rfl ?_
    refine G_dup (q := 12) cx dX8_takes_11 rfl rfl ?_
    refine G_geti (q := 15) cx dX8_takes_12 rfl cf_8 fl_RX8_53 (Nat.le_of_ble_eq_true rfl) rfl (Nat.le_of_ble_eq_true rfl) ?_
    refine G_iconst (q := 16) (v := (1 : Int32)) cx dX8_takes_15 rfl (by decide) ?_
    refine G_iadd (q := 17) cx dX8_takes_16 rfl ?_
    refine G_puti (q := 20) cx dX8_takes_17 rfl cf_8 fl_RX8_53 (Nat.le_of_ble_eq_true rfl) rfl rfl rfl rfl rfl (Nat.le_of_ble_eq_true rfl) ?_
    refine G_iconst (q := 21) (v := (1 : Int32)) cx dX8_takes_20 rfl (by decide) ?_
    exact G_zret (ty := .boolean) cx rfl dX8_takes_21 rfl rfl
  · refine G_iconst (q := 9) (v := (0 : Int32)) cx dX8_takes_8 rfl (by decide) ?_
    exact G_zret (ty := .boolean) cx rfl dX8_takes_9 rfl rfl
def L_X8_takesWord_2 (a1 : Int32) (a2 : Int32) (K_1 : Int32 → St → Option (Int32 × St)) : Nat → Int32 → St → Option (Int32 × St)
  | 0, _, _ => none
  | n + 1, x3_1, S_1 =>
    if a2 ≤ x3_1 then (K_1 x3_1 S_1)
    else (if 0 ≤ (a1 + x3_1) ∧ (a1 + x3_1).toNatClampNeg < 14 then (bnd (F_X8_takes S_1 (gI S_1 35 0 (a1 + x3_1).toNatClampNeg)) (fun r9 S10 =>
    if r9 = 0 then (some ((0 : Int32), S10))
    else (L_X8_takesWord_2 a1 a2 K_1 n (x3_1 + 1) S10)))
    else none)
def F_X8_takesWord (S : St) (a1 : Int32) (a2 : Int32) : Option (Int32 × St) :=
  L_X8_takesWord_2 a1 a2 
  (fun y3_1 T_1 => bnd (F_X8_takes T_1 (32 : Int32)) (fun r2 S3 =>
  some (r2, S3))) 1000 (0 : Int32) S
set_option maxRecDepth 10000 in
theorem c_X8_takesWord (l : Launch) {D : va_G} {cy : Nat → ClassId} {ad : Nat → Nat → Nat} (hJ : wJ ad nM) (S : St) (a1 : Int32) (a2 : Int32) : CT l yX8_takesWord cX8_takesWord 4 (some .boolean) 2 D cy ad nM toI okZ [.ref (ad 8 0), .int a1, .int a2] S (F_X8_takesWord S a1 a2) := by
  refine CT.of RX8 (by decide) rfl hJ (Nat.le_of_ble_eq_true rfl) rfl ?_
  intro p e s m below meth c cx
  unfold F_X8_takesWord
  refine G_iconst (q := 1) (v := (0 : Int32)) cx dX8_takesWord_0 rfl (by decide) ?_
  refine G_istore_n (q := 2) (ls' := [(3, .int (0 : Int32)), (0, .ref (ad 8 0)), (1, .int a1), (2, .int a2)]) cx dX8_takesWord_1 rfl rfl (Nat.le_of_ble_eq_true rfl) rfl ?_
  have lp_1 : ∀ (K_1 : Int32 → St → Option (Int32 × St)) (hK_1 : ∀ (y3_1 : Int32) (T_1 : St), TG p l e 2 s m ([.ref (ad 8 0), .int a1, .int a2] : List Value).toArray below meth c D cy ad nM toI okZ T_1 30 [(3, .int y3_1), (0, .ref (ad 8 0)), (1, .int a1), (2, .int a2)] [] (K_1 y3_1 T_1)), ∀ (n_1 : Nat) (x3_1 : Int32) (S_1 : St), TG p l e 2 s m ([.ref (ad 8 0), .int a1, .int a2] : List Value).toArray below meth c D cy ad nM toI okZ S_1 2 [(3, .int x3_1), (0, .ref (ad 8 0)), (1, .int a1), (2, .int a2)] [] (L_X8_takesWord_2 a1 a2 K_1 n_1 x3_1 S_1) := by
    intro K_1 hK_1 n_1
    induction n_1 with
    | zero => intros; exact G_none
    | succ n_1 ih_1 =>
      intro x3_1 S_1
      rw [L_X8_takesWord_2.eq_2]
      refine G_iload_n (q := 3) cx dX8_takesWord_2 rfl rfl ?_
      refine G_iload_n (q := 4) cx dX8_takesWord_3 rfl rfl ?_
      refine G_icmp_ge (q := 7) (t := 30) cx dX8_takesWord_4 rfl (by decide) (fun c6 => ?_) (fun c6 => ?_)
      · exact G_loc [0, 1, 2, 3] rfl (hK_1 x3_1 S_1)
      refine G_aload_n (q := 8) cx dX8_takesWord_7 rfl rfl ?_
      refine G_aload_n (q := 9) cx dX8_takesWord_8 rfl rfl ?_
      refine G_getr (q := 12) (g := 35) (i' := 0) cx dX8_takesWord_9 rfl cf_8 fl_RX8_92 (Nat.le_of_ble_eq_true rfl) rfl rfl (Nat.le_of_ble_eq_true rfl) ?_
      refine G_iload_n (q := 13) cx dX8_takesWord_12 rfl rfl ?_
      refine G_iload_n (q := 14) cx dX8_takesWord_13 rfl rfl ?_
      refine G_iadd (q := 15) cx dX8_takesWord_14 rfl ?_
      refine G_iald (q := 16) cx dX8_takesWord_15 rfl (by decide) rfl rfl (Nat.le_of_ble_eq_true rfl) (fun g7 g8 => ?_)
      refine G_callV (q := 19) (d' := 1) (f := 8) (i := 0) (As := [.int (gI S_1 35 0 (a1 + x3_1).toNatClampNeg)]) (rest := []) (stk := fun r9 => [.int r9]) cx dX8_takesWord_16 rfl cf_8 (Nat.le_of_ble_eq_true rfl) ml_RX8_242 rfl rfl (Nat.le_of_ble_eq_true rfl) (Nat.le_of_ble_eq_true rfl) (Nat.le_of_ble_eq_true rfl) (c_X8_takes l hJ  _ (gI S_1 35 0 (a1 + x3_1).toNatClampNeg)) (fun _ => rfl) (fun r9 S10 h11 o12 => ?_)
      refine G_if_ne (q := 22) (t := 24) cx dX8_takesWord_19 rfl (by decide) (fun c13 => ?_) (fun c13 => ?_)
      · refine G_iinc (q := 27) (j := 0) (v := x3_1 + 1) (ls' := [(3, .int (x3_1 + 1)), (0, .ref (ad 8 0)), (1, .int a1), (2, .int a2)]) cx dX8_takesWord_24 rfl rfl rfl (Nat.le_of_ble_eq_true rfl) rfl ?_
        refine G_goto (t := 2) cx dX8_takesWord_27 (by decide) ?_
        exact G_loc [0, 1, 2, 3] rfl (ih_1 (x3_1 + 1) S10)
      · refine G_iconst (q := 23) (v := (0 : Int32)) cx dX8_takesWord_22 rfl (by decide) ?_
        exact G_zret (ty := .boolean) cx rfl dX8_takesWord_23 rfl rfl
  refine G_loc [0, 1, 2, 3] rfl (lp_1 _ (fun y3_1 T_1 => ?_) 1000 (0 : Int32) S)
  refine G_aload_n (q := 31) cx dX8_takesWord_30 rfl rfl ?_
  refine G_bipush (q := 33) (v := (32 : Int32)) cx dX8_takesWord_31 rfl (by decide) ?_
  refine G_callV (q := 36) (d' := 1) (f := 8) (i := 0) (As := [.int (32 : Int32)]) (rest := []) (stk := fun r2 => [.int r2]) cx dX8_takesWord_33 rfl cf_8 (Nat.le_of_ble_eq_true rfl) ml_RX8_242 rfl rfl (Nat.le_of_ble_eq_true rfl) (Nat.le_of_ble_eq_true rfl) (Nat.le_of_ble_eq_true rfl) (c_X8_takes l hJ  _ (32 : Int32)) (fun _ => rfl) (fun r2 S3 h4 o5 => ?_)
  exact G_zret (ty := .boolean) cx rfl dX8_takesWord_36 o5 o5
def F_X8_isDigit (S : St) : Option (Int32 × St) :=
  bnd (F_X8_peek S) (fun r1 S2 =>
  bnd (F_X8_in S2 r1 (48 : Int32) (57 : Int32)) (fun r5 S6 =>
  some (r5, S6)))
set_option maxRecDepth 10000 in
theorem c_X8_isDigit (l : Launch) {D : va_G} {cy : Nat → ClassId} {ad : Nat → Nat → Nat} (hJ : wJ ad nM) (S : St) : CT l yX8_isDigit cX8_isDigit 1 (some .boolean) 1 D cy ad nM toI okZ [.ref (ad 8 0)] S (F_X8_isDigit S) := by
  refine CT.of RX8 (by decide) rfl hJ (Nat.le_of_ble_eq_true rfl) rfl ?_
  intro p e s m below meth c cx
  unfold F_X8_isDigit
  refine G_aload_n (q := 1) cx dX8_isDigit_0 rfl rfl ?_
  refine G_aload_n (q := 2) cx dX8_isDigit_1 rfl rfl ?_
  refine G_callV (q := 5) (d' := 0) (f := 8) (i := 0) (As := []) (rest := [.ref (ad 8 0)]) (stk := fun r1 => [.int r1, .ref (ad 8 0)]) cx dX8_isDigit_2 rfl cf_8 (Nat.le_of_ble_eq_true rfl) ml_RX8_238 rfl rfl (Nat.le_of_ble_eq_true rfl) (Nat.le_of_ble_eq_true rfl) (Nat.le_of_ble_eq_true rfl) (c_X8_peek l hJ  _) (fun _ => rfl) (fun r1 S2 h3 o4 => ?_)
  refine G_bipush (q := 7) (v := (48 : Int32)) cx dX8_isDigit_5 rfl (by decide) ?_
  refine G_bipush (q := 9) (v := (57 : Int32)) cx dX8_isDigit_7 rfl (by decide) ?_
  refine G_callV (q := 12) (d' := 0) (f := 8) (i := 0) (As := [.int r1, .int (48 : Int32), .int (57 : Int32)]) (rest := []) (stk := fun r5 => [.int r5]) cx dX8_isDigit_9 rfl cf_8 (Nat.le_of_ble_eq_true rfl) ml_RX8_227 rfl rfl (Nat.le_of_ble_eq_true rfl) (Nat.le_of_ble_eq_true rfl) (Nat.le_of_ble_eq_true rfl) (c_X8_in l hJ  _ r1 (48 : Int32) (57 : Int32)) (fun _ => rfl) (fun r5 S6 h7 o8 => ?_)
  exact G_zret (ty := .boolean) cx rfl dX8_isDigit_12 o8 o8
def L_X8_takesNumber_16 (K_6 : Int32 → St → Option (Int32 × St)) : Nat → Int32 → St → Option (Int32 × St)
  | 0, _, _ => none
  | n + 1, x1_6, S_6 =>
    if (2 : Int32) ≤ x1_6 then (K_6 x1_6 S_6)
    else (bnd (F_X8_isDigit S_6) (fun r8 S9 =>
    if r8 = 0 then (K_6 x1_6 S9)
    else (bnd (F_X8_peek S9) (fun r13 S14 =>
    L_X8_takesNumber_16 K_6 n (x1_6 + 1) (sI (sI S14 8 0 15 ((((10 : Int32) * (gI S9 8 0 15)) + r13) - (48 : Int32))) 8 0 14 ((gI (sI S14 8 0 15 ((((10 : Int32) * (gI S9 8 0 15)) + r13) - (48 : Int32))) 8 0 14) + (1 : Int32)))))))
def F_X8_takesNumber (S : St) : Option (Int32 × St) :=
  bnd (F_X8_isDigit S) (fun r1 S2 =>
  if r1 = 0 then (some ((0 : Int32), S2))
  else (L_X8_takesNumber_16 
  (fun y1_6 T_6 => some ((1 : Int32), T_6)) 1000 (0 : Int32) (sI S2 8 0 15 (0 : Int32))))
set_option maxRecDepth 10000 in
theorem c_X8_takesNumber (l : Launch) {D : va_G} {cy : Nat → ClassId} {ad : Nat → Nat → Nat} (hJ : wJ ad nM) (S : St) : CT l yX8_takesNumber cX8_takesNumber 2 (some .boolean) 2 D cy ad nM toI okZ [.ref (ad 8 0)] S (F_X8_takesNumber S) := by
  refine CT.of RX8 (by decide) rfl hJ (Nat.le_of_ble_eq_true rfl) rfl ?_
  intro p e s m below meth c cx
  unfold F_X8_takesNumber
  refine G_aload_n (q := 1) cx dX8_takesNumber_0 rfl rfl ?_
  refine G_callV (q := 4) (d' := 1) (f := 8) (i := 0) (As := []) (rest := []) (stk := fun r1 => [.int r1]) cx dX8_takesNumber_1 rfl cf_8 (Nat.le_of_ble_eq_true rfl) ml_RX8_245 rfl rfl (Nat.le_of_ble_eq_true rfl) (Nat.le_of_ble_eq_true rfl) (Nat.le_of_ble_eq_true rfl) (c_X8_isDigit l hJ  _) (fun _ => rfl) (fun r1 S2 h3 o4 => ?_)
  refine G_if_ne (q := 7) (t := 9) cx dX8_takesNumber_4 rfl (by decide) (fun c5 => ?_) (fun c5 => ?_)
  · refine G_aload_n (q := 10) cx dX8_takesNumber_9 rfl rfl ?_
    refine G_iconst (q := 11) (v := (0 : Int32)) cx dX8_takesNumber_10 rfl (by decide) ?_
    refine G_puti (q := 14) cx dX8_takesNumber_11 rfl cf_8 fl_RX8_56 (Nat.le_of_ble_eq_true rfl) rfl rfl rfl rfl rfl (Nat.le_of_ble_eq_true rfl) ?_
    refine G_iconst (q := 15) (v := (0 : Int32)) cx dX8_takesNumber_14 rfl (by decide) ?_
    refine G_istore_n (q := 16) (ls' := [(1, .int (0 : Int32)), (0, .ref (ad 8 0))]) cx dX8_takesNumber_15 rfl rfl (Nat.le_of_ble_eq_true rfl) rfl ?_
    have lp_6 : ∀ (K_6 : Int32 → St → Option (Int32 × St)) (hK_6 : ∀ (y1_6 : Int32) (T_6 : St), TG p l e 2 s m ([.ref (ad 8 0)] : List Value).toArray below meth c D cy ad nM toI okZ T_6 63 [(1, .int y1_6), (0, .ref (ad 8 0))] [] (K_6 y1_6 T_6)), ∀ (n_6 : Nat) (x1_6 : Int32) (S_6 : St), TG p l e 2 s m ([.ref (ad 8 0)] : List Value).toArray below meth c D cy ad nM toI okZ S_6 16 [(1, .int x1_6), (0, .ref (ad 8 0))] [] (L_X8_takesNumber_16 K_6 n_6 x1_6 S_6) := by
      intro K_6 hK_6 n_6
      induction n_6 with
      | zero => intros; exact G_none
      | succ n_6 ih_6 =>
        intro x1_6 S_6
        rw [L_X8_takesNumber_16.eq_2]
        refine G_iload_n (q := 17) cx dX8_takesNumber_16 rfl rfl ?_
        refine G_iconst (q := 18) (v := (2 : Int32)) cx dX8_takesNumber_17 rfl (by decide) ?_
        refine G_icmp_ge (q := 21) (t := 63) cx dX8_takesNumber_18 rfl (by decide) (fun c7 => ?_) (fun c7 => ?_)
        · exact G_loc [0, 1] rfl (hK_6 x1_6 S_6)
        refine G_aload_n (q := 22) cx dX8_takesNumber_21 rfl rfl ?_
        refine G_callV (q := 25) (d' := 1) (f := 8) (i := 0) (As := []) (rest := []) (stk := fun r8 => [.int r8]) cx dX8_takesNumber_22 rfl cf_8 (Nat.le_of_ble_eq_true rfl) ml_RX8_245 rfl rfl (Nat.le_of_ble_eq_true rfl) (Nat.le_of_ble_eq_true rfl) (Nat.le_of_ble_eq_true rfl) (c_X8_isDigit l hJ  _) (fun _ => rfl) (fun r8 S9 h10 o11 => ?_)
        refine G_if_eq (q := 28) (t := 63) cx dX8_takesNumber_25 rfl (by decide) (fun c12 => ?_) (fun c12 => ?_)
        · exact G_loc [0, 1] rfl (hK_6 x1_6 S9)
        refine G_aload_n (q := 29) cx dX8_takesNumber_28 rfl rfl ?_
        refine G_bipush (q := 31) (v := (10 : Int32)) cx dX8_takesNumber_29 rfl (by decide) ?_
        refine G_aload_n (q := 32) cx dX8_takesNumber_31 rfl rfl ?_
        refine G_geti (q := 35) cx dX8_takesNumber_32 rfl cf_8 fl_RX8_56 (Nat.le_of_ble_eq_true rfl) rfl (Nat.le_of_ble_eq_true rfl) ?_
        refine G_imul (q := 36) cx dX8_takesNumber_35 rfl ?_
        refine G_aload_n (q := 37) cx dX8_takesNumber_36 rfl rfl ?_
        refine G_callV (q := 40) (d' := 0) (f := 8) (i := 0) (As := []) (rest := [.int ((10 : Int32) * (gI S9 8 0 15)), .ref (ad 8 0)]) (stk := fun r13 => [.int r13, .int ((10 : Int32) * (gI S9 8 0 15)), .ref (ad 8 0)]) cx dX8_takesNumber_37 rfl cf_8 (Nat.le_of_ble_eq_true rfl) ml_RX8_238 rfl rfl (Nat.le_of_ble_eq_true rfl) (Nat.le_of_ble_eq_true rfl) (Nat.le_of_ble_eq_true rfl) (c_X8_peek l hJ  _) (fun _ => rfl) (fun r13 S14 h15 o16 => ?_)
        refine G_iadd (q := 41) cx dX8_takesNumber_40 rfl ?_
        refine G_bipush (q := 43) (v := (48 : Int32)) cx dX8_takesNumber_41 rfl (by decide) ?_
        refine G_isub (q := 44) cx dX8_takesNumber_43 rfl ?_
        refine G_puti (q := 47) cx dX8_takesNumber_44 rfl cf_8 fl_RX8_56 (Nat.le_of_ble_eq_true rfl) rfl rfl rfl rfl rfl (Nat.le_of_ble_eq_true rfl) ?_
        refine G_aload_n (q := 48) cx dX8_takesNumber_47 rfl rfl ?_
        refine G_dup (q := 49) cx dX8_takesNumber_48 rfl rfl ?_
        refine G_geti (q := 52) cx dX8_takesNumber_49 rfl cf_8 fl_RX8_53 (Nat.le_of_ble_eq_true rfl) rfl (Nat.le_of_ble_eq_true rfl) ?_
        refine G_iconst (q := 53) (v := (1 : Int32)) cx dX8_takesNumber_52 rfl (by decide) ?_
        refine G_iadd (q := 54) cx dX8_takesNumber_53 rfl ?_
        refine G_puti (q := 57) cx dX8_takesNumber_54 rfl cf_8 fl_RX8_53 (Nat.le_of_ble_eq_true rfl) rfl rfl rfl rfl rfl (Nat.le_of_ble_eq_true rfl) ?_
        refine G_iinc (q := 60) (j := 0) (v := x1_6 + 1) (ls' := [(1, .int (x1_6 + 1)), (0, .ref (ad 8 0))]) cx dX8_takesNumber_57 rfl rfl rfl (Nat.le_of_ble_eq_true rfl) rfl ?_
        refine G_goto (t := 16) cx dX8_takesNumber_60 (by decide) ?_
        exact G_loc [0, 1] rfl (ih_6 (x1_6 + 1) (sI (sI S14 8 0 15 ((((10 : Int32) * (gI S9 8 0 15)) + r13) - (48 : Int32))) 8 0 14 ((gI (sI S14 8 0 15 ((((10 : Int32) * (gI S9 8 0 15)) + r13) - (48 : Int32))) 8 0 14) + (1 : Int32))))
    refine G_loc [0, 1] rfl (lp_6 _ (fun y1_6 T_6 => ?_) 1000 (0 : Int32) (sI S2 8 0 15 (0 : Int32)))
    refine G_iconst (q := 64) (v := (1 : Int32)) cx dX8_takesNumber_63 rfl (by decide) ?_
    exact G_zret (ty := .boolean) cx rfl dX8_takesNumber_64 rfl rfl
  · refine G_iconst (q := 8) (v := (0 : Int32)) cx dX8_takesNumber_7 rfl (by decide) ?_
    exact G_zret (ty := .boolean) cx rfl dX8_takesNumber_8 rfl rfl
def F_X8_emits (S : St) (a1 : Int32) : Option (Unit × St) :=
  if 0 ≤ (gI S 8 0 24) ∧ (gI S 8 0 24).toNatClampNeg < 600 then (some ((), (sI (sI S 33 0 (gI S 8 0 24).toNatClampNeg a1) 8 0 24 ((gI (sI S 33 0 (gI S 8 0 24).toNatClampNeg a1) 8 0 24) + (1 : Int32)))))
  else none
set_option maxRecDepth 10000 in
theorem c_X8_emits (l : Launch) {D : va_G} {cy : Nat → ClassId} {ad : Nat → Nat → Nat} (hJ : wJ ad nM) (S : St) (a1 : Int32) : CT l yX8_emits cX8_emits 2 none 0 D cy ad nM toU okT [.ref (ad 8 0), .int a1] S (F_X8_emits S a1) := by
  refine CT.of RX8 (by decide) rfl hJ (Nat.le_of_ble_eq_true rfl) rfl ?_
  intro p e s m below meth c cx
  unfold F_X8_emits
  refine G_aload_n (q := 1) cx dX8_emits_0 rfl rfl ?_
  refine G_getr (q := 4) (g := 33) (i' := 0) cx dX8_emits_1 rfl cf_8 fl_RX8_77 (Nat.le_of_ble_eq_true rfl) rfl rfl (Nat.le_of_ble_eq_true rfl) ?_
  refine G_aload_n (q := 5) cx dX8_emits_4 rfl rfl ?_
  refine G_geti (q := 8) cx dX8_emits_5 rfl cf_8 fl_RX8_83 (Nat.le_of_ble_eq_true rfl) rfl (Nat.le_of_ble_eq_true rfl) ?_
  refine G_iload_n (q := 9) cx dX8_emits_8 rfl rfl ?_
  refine G_iast (q := 10) cx dX8_emits_9 rfl (by decide) rfl rfl (Nat.le_of_ble_eq_true rfl) (fun g1 g2 => ?_)
  refine G_aload_n (q := 11) cx dX8_emits_10 rfl rfl ?_
  refine G_dup (q := 12) cx dX8_emits_11 rfl rfl ?_
  refine G_geti (q := 15) cx dX8_emits_12 rfl cf_8 fl_RX8_83 (Nat.le_of_ble_eq_true rfl) rfl (Nat.le_of_ble_eq_true rfl) ?_
  refine G_iconst (q := 16) (v := (1 : Int32)) cx dX8_emits_15 rfl (by decide) ?_
  refine G_iadd (q := 17) cx dX8_emits_16 rfl ?_
  refine G_puti (q := 20) cx dX8_emits_17 rfl cf_8 fl_RX8_83 (Nat.le_of_ble_eq_true rfl) rfl rfl rfl rfl rfl (Nat.le_of_ble_eq_true rfl) ?_
  exact G_vret cx rfl dX8_emits_20 trivial
def L_X8_whole_0 (K_1 : St → Option (Unit × St)) : Nat → St → Option (Unit × St)
  | 0, _ => none
  | n + 1, S_1 =>
    if (gI S_1 8 0 25) ≤ 0 then (K_1 S_1)
    else (if 0 ≤ ((gI S_1 8 0 25) - (1 : Int32)) ∧ ((gI S_1 8 0 25) - (1 : Int32)).toNatClampNeg < 101 then (if (gI S_1 34 0 ((gI S_1 8 0 25) - (1 : Int32)).toNatClampNeg) = (33 : Int32) then (bnd (F_X8_emits S_1 (-33 : Int32)) (fun r6 S7 =>
    L_X8_whole_0 K_1 n (sI (sI S7 8 0 25 ((gI S7 8 0 25) - (1 : Int32))) 8 0 26 ((gI (sI S7 8 0 25 ((gI S7 8 0 25) - (1 : Int32))) 8 0 26) - (1 : Int32)))))
    else (K_1 S_1))
    else none)
def F_X8_whole (S : St) : Option (Unit × St) :=
  L_X8_whole_0 
  (fun T_1 => some ((), T_1)) 1000 S
set_option maxRecDepth 10000 in
theorem c_X8_whole (l : Launch) {D : va_G} {cy : Nat → ClassId} {ad : Nat → Nat → Nat} (hJ : wJ ad nM) (S : St) : CT l yX8_whole cX8_whole 1 none 1 D cy ad nM toU okT [.ref (ad 8 0)] S (F_X8_whole S) := by
  refine CT.of RX8 (by decide) rfl hJ (Nat.le_of_ble_eq_true rfl) rfl ?_
  intro p e s m below meth c cx
  unfold F_X8_whole
  have lp_1 : ∀ (K_1 : St → Option (Unit × St)) (hK_1 : ∀ (T_1 : St), TG p l e 1 s m ([.ref (ad 8 0)] : List Value).toArray below meth c D cy ad nM toU okT T_1 52 [(0, .ref (ad 8 0))] [] (K_1 T_1)), ∀ (n_1 : Nat) (S_1 : St), TG p l e 1 s m ([.ref (ad 8 0)] : List Value).toArray below meth c D cy ad nM toU okT S_1 0 [(0, .ref (ad 8 0))] [] (L_X8_whole_0 K_1 n_1 S_1) := by
    intro K_1 hK_1 n_1
    induction n_1 with
    | zero => intros; exact G_none
    | succ n_1 ih_1 =>
      intro S_1
      rw [L_X8_whole_0.eq_2]
      refine G_aload_n (q := 1) cx dX8_whole_0 rfl rfl ?_
      refine G_geti (q := 4) cx dX8_whole_1 rfl cf_8 fl_RX8_86 (Nat.le_of_ble_eq_true rfl) rfl (Nat.le_of_ble_eq_true rfl) ?_
      refine G_if_le (q := 7) (t := 52) cx dX8_whole_4 rfl (by decide) (fun c2 => ?_) (fun c2 => ?_)
      · exact G_loc [0] rfl (hK_1 S_1)
      refine G_aload_n (q := 8) cx dX8_whole_7 rfl rfl ?_
      refine G_getr (q := 11) (g := 34) (i' := 0) cx dX8_whole_8 rfl cf_8 fl_RX8_80 (Nat.le_of_ble_eq_true rfl) rfl rfl (Nat.le_of_ble_eq_true rfl) ?_
      refine G_aload_n (q := 12) cx dX8_whole_11 rfl rfl ?_
      refine G_geti (q := 15) cx dX8_whole_12 rfl cf_8 fl_RX8_86 (Nat.le_of_ble_eq_true rfl) rfl (Nat.le_of_ble_eq_true rfl) ?_
      refine G_iconst (q := 16) (v := (1 : Int32)) cx dX8_whole_15 rfl (by decide) ?_
      refine G_isub (q := 17) cx dX8_whole_16 rfl ?_
      refine G_iald (q := 18) cx dX8_whole_17 rfl (by decide) rfl rfl (Nat.le_of_ble_eq_true rfl) (fun g3 g4 => ?_)
      refine G_bipush (q := 20) (v := (33 : Int32)) cx dX8_whole_18 rfl (by decide) ?_
      refine G_icmp_ne (q := 23) (t := 52) cx dX8_whole_20 rfl (by decide) (fun c5 => ?_) (fun c5 => ?_)
      · exact G_loc [0] rfl (hK_1 S_1)
      refine G_aload_n (q := 24) cx dX8_whole_23 rfl rfl ?_
      refine G_bipush (q := 26) (v := (-33 : Int32)) cx dX8_whole_24 rfl (by decide) ?_
      refine G_callV (q := 29) (d' := 0) (f := 8) (i := 0) (As := [.int (-33 : Int32)]) (rest := []) (stk := fun _ => []) cx dX8_whole_26 rfl cf_8 (Nat.le_of_ble_eq_true rfl) ml_RX8_249 rfl rfl (Nat.le_of_ble_eq_true rfl) (Nat.le_of_ble_eq_true rfl) (Nat.le_of_ble_eq_true rfl) (c_X8_emits l hJ  _ (-33 : Int32)) (fun _ => rfl) (fun r6 S7 h8 o9 => ?_)
      refine G_aload_n (q := 30) cx dX8_whole_29 rfl rfl ?_
      refine G_dup (q := 31) cx dX8_whole_30 rfl rfl ?_
      refine G_geti (q := 34) cx dX8_whole_31 rfl cf_8 fl_RX8_86 (Nat.le_of_ble_eq_true rfl) rfl (Nat.le_of_ble_eq_true rfl) ?_
      refine G_iconst (q := 35) (v := (1 : Int32)) cx dX8_whole_34 rfl (by decide) ?_
      refine G_isub (q := 36) cx dX8_whole_35 rfl ?_
      refine G_puti (q := 39) cx dX8_whole_36 rfl cf_8 fl_RX8_86 (Nat.le_of_ble_eq_true rfl) rfl rfl rfl rfl rfl (Nat.le_of_ble_eq_true rfl) ?_
      refine G_aload_n (q := 40) cx dX8_whole_39 rfl rfl ?_
      refine G_dup (q := 41) cx dX8_whole_40 rfl rfl ?_
      refine G_geti (q := 44) cx dX8_whole_41 rfl cf_8 fl_RX8_89 (Nat.le_of_ble_eq_true rfl) rfl (Nat.le_of_ble_eq_true rfl) ?_
      refine G_iconst (q := 45) (v := (1 : Int32)) cx dX8_whole_44 rfl (by decide) ?_
      refine G_isub (q := 46) cx dX8_whole_45 rfl ?_
      refine G_puti (q := 49) cx dX8_whole_46 rfl cf_8 fl_RX8_89 (Nat.le_of_ble_eq_true rfl) rfl rfl rfl rfl rfl (Nat.le_of_ble_eq_true rfl) ?_
      refine G_goto (t := 0) cx dX8_whole_49 (by decide) ?_
      exact G_loc [0] rfl (ih_1 (sI (sI S7 8 0 25 ((gI S7 8 0 25) - (1 : Int32))) 8 0 26 ((gI (sI S7 8 0 25 ((gI S7 8 0 25) - (1 : Int32))) 8 0 26) - (1 : Int32))))
  refine G_loc [0] rfl (lp_1 _ (fun T_1 => ?_) 1000 S)
  exact G_vret cx rfl dX8_whole_52 trivial
def L_X8_settle_0 (a1 : Int32) (K_1 : St → Option (Unit × St)) : Nat → St → Option (Unit × St)
  | 0, _ => none
  | n + 1, S_1 =>
    if (gI S_1 8 0 25) ≤ 0 then (K_1 S_1)
    else (if 0 ≤ ((gI S_1 8 0 25) - (1 : Int32)) ∧ ((gI S_1 8 0 25) - (1 : Int32)).toNatClampNeg < 101 then (if (gI S_1 34 0 ((gI S_1 8 0 25) - (1 : Int32)).toNatClampNeg) = (38 : Int32) then (if 0 ≤ (gI (sI S_1 8 0 25 ((gI S_1 8 0 25) - (1 : Int32))) 8 0 25) ∧ (gI (sI S_1 8 0 25 ((gI S_1 8 0 25) - (1 : Int32))) 8 0 25).toNatClampNeg < 101 then (bnd (F_X8_emits (sI S_1 8 0 25 ((gI S_1 8 0 25) - (1 : Int32))) (-(gI (sI S_1 8 0 25 ((gI S_1 8 0 25) - (1 : Int32))) 34 0 (gI (sI S_1 8 0 25 ((gI S_1 8 0 25) - (1 : Int32))) 8 0 25).toNatClampNeg))) (fun r8 S9 =>
    L_X8_settle_0 a1 K_1 n S9))
    else none)
    else (if 0 ≤ ((gI S_1 8 0 25) - (1 : Int32)) ∧ ((gI S_1 8 0 25) - (1 : Int32)).toNatClampNeg < 101 then (if (gI S_1 34 0 ((gI S_1 8 0 25) - (1 : Int32)).toNatClampNeg) = (124 : Int32) then (if a1 = (38 : Int32) then (K_1 S_1)
    else (if 0 ≤ (gI (sI S_1 8 0 25 ((gI S_1 8 0 25) - (1 : Int32))) 8 0 25) ∧ (gI (sI S_1 8 0 25 ((gI S_1 8 0 25) - (1 : Int32))) 8 0 25).toNatClampNeg < 101 then (bnd (F_X8_emits (sI S_1 8 0 25 ((gI S_1 8 0 25) - (1 : Int32))) (-(gI (sI S_1 8 0 25 ((gI S_1 8 0 25) - (1 : Int32))) 34 0 (gI (sI S_1 8 0 25 ((gI S_1 8 0 25) - (1 : Int32))) 8 0 25).toNatClampNeg))) (fun r18 S19 =>
    L_X8_settle_0 a1 K_1 n S19))
    else none))
    else (K_1 S_1))
    else none))
    else none)
def F_X8_settle (S : St) (a1 : Int32) : Option (Unit × St) :=
  L_X8_settle_0 a1 
  (fun T_1 => some ((), T_1)) 1000 S
set_option maxRecDepth 10000 in
theorem c_X8_settle (l : Launch) {D : va_G} {cy : Nat → ClassId} {ad : Nat → Nat → Nat} (hJ : wJ ad nM) (S : St) (a1 : Int32) : CT l yX8_settle cX8_settle 2 none 1 D cy ad nM toU okT [.ref (ad 8 0), .int a1] S (F_X8_settle S a1) := by
  refine CT.of RX8 (by decide) rfl hJ (Nat.le_of_ble_eq_true rfl) rfl ?_
  intro p e s m below meth c cx
  unfold F_X8_settle
  have lp_1 : ∀ (K_1 : St → Option (Unit × St)) (hK_1 : ∀ (T_1 : St), TG p l e 1 s m ([.ref (ad 8 0), .int a1] : List Value).toArray below meth c D cy ad nM toU okT T_1 72 [(0, .ref (ad 8 0)), (1, .int a1)] [] (K_1 T_1)), ∀ (n_1 : Nat) (S_1 : St), TG p l e 1 s m ([.ref (ad 8 0), .int a1] : List Value).toArray below meth c D cy ad nM toU okT S_1 0 [(0, .ref (ad 8 0)), (1, .int a1)] [] (L_X8_settle_0 a1 K_1 n_1 S_1) := by
    intro K_1 hK_1 n_1
    induction n_1 with
    | zero => intros; exact G_none
    | succ n_1 ih_1 =>
      intro S_1
      rw [L_X8_settle_0.eq_2]
      refine G_aload_n (q := 1) cx dX8_settle_0 rfl rfl ?_
      refine G_geti (q := 4) cx dX8_settle_1 rfl cf_8 fl_RX8_86 (Nat.le_of_ble_eq_true rfl) rfl (Nat.le_of_ble_eq_true rfl) ?_
      refine G_if_le (q := 7) (t := 72) cx dX8_settle_4 rfl (by decide) (fun c2 => ?_) (fun c2 => ?_)
      · exact G_loc [0, 1] rfl (hK_1 S_1)
      refine G_aload_n (q := 8) cx dX8_settle_7 rfl rfl ?_
      refine G_getr (q := 11) (g := 34) (i' := 0) cx dX8_settle_8 rfl cf_8 fl_RX8_80 (Nat.le_of_ble_eq_true rfl) rfl rfl (Nat.le_of_ble_eq_true rfl) ?_
      refine G_aload_n (q := 12) cx dX8_settle_11 rfl rfl ?_
      refine G_geti (q := 15) cx dX8_settle_12 rfl cf_8 fl_RX8_86 (Nat.le_of_ble_eq_true rfl) rfl (Nat.le_of_ble_eq_true rfl) ?_
      refine G_iconst (q := 16) (v := (1 : Int32)) cx dX8_settle_15 rfl (by decide) ?_
      refine G_isub (q := 17) cx dX8_settle_16 rfl ?_
      refine G_iald (q := 18) cx dX8_settle_17 rfl (by decide) rfl rfl (Nat.le_of_ble_eq_true rfl) (fun g3 g4 => ?_)
      refine G_bipush (q := 20) (v := (38 : Int32)) cx dX8_settle_18 rfl (by decide) ?_
      refine G_icmp_eq (q := 23) (t := 45) cx dX8_settle_20 rfl (by decide) (fun c5 => ?_) (fun c5 => ?_)
      · refine G_aload_n (q := 46) cx dX8_settle_45 rfl rfl ?_
        refine G_dup (q := 47) cx dX8_settle_46 rfl rfl ?_
        refine G_geti (q := 50) cx dX8_settle_47 rfl cf_8 fl_RX8_86 (Nat.le_of_ble_eq_true rfl) rfl (Nat.le_of_ble_eq_true rfl) ?_
        refine G_iconst (q := 51) (v := (1 : Int32)) cx dX8_settle_50 rfl (by decide) ?_
        refine G_isub (q := 52) cx dX8_settle_51 rfl ?_
        refine G_puti (q := 55) cx dX8_settle_52 rfl cf_8 fl_RX8_86 (Nat.le_of_ble_eq_true rfl) rfl rfl rfl rfl rfl (Nat.le_of_ble_eq_true rfl) ?_
        refine G_aload_n (q := 56) cx dX8_settle_55 rfl rfl ?_
        refine G_aload_n (q := 57) cx dX8_settle_56 rfl rfl ?_
        refine G_getr (q := 60) (g := 34) (i' := 0) cx dX8_settle_57 rfl cf_8 fl_RX8_80 (Nat.le_of_ble_eq_true rfl) rfl rfl (Nat.le_of_ble_eq_true rfl) ?_
        refine G_aload_n (q := 61) cx dX8_settle_60 rfl rfl ?_
        refine G_geti (q := 64) cx dX8_settle_61 rfl cf_8 fl_RX8_86 (Nat.le_of_ble_eq_true rfl) rfl (Nat.le_of_ble_eq_true rfl) ?_
        refine G_iald (q := 65) cx dX8_settle_64 rfl (by decide) rfl rfl (Nat.le_of_ble_eq_true rfl) (fun g6 g7 => ?_)
        refine G_ineg (q := 66) cx dX8_settle_65 rfl ?_
        refine G_callV (q := 69) (d' := 0) (f := 8) (i := 0) (As := [.int (-(gI (sI S_1 8 0 25 ((gI S_1 8 0 25) - (1 : Int32))) 34 0 (gI (sI S_1 8 0 25 ((gI S_1 8 0 25) - (1 : Int32))) 8 0 25).toNatClampNeg))]) (rest := []) (stk := fun _ => []) cx dX8_settle_66 rfl cf_8 (Nat.le_of_ble_eq_true rfl) ml_RX8_249 rfl rfl (Nat.le_of_ble_eq_true rfl) (Nat.le_of_ble_eq_true rfl) (Nat.le_of_ble_eq_true rfl) (c_X8_emits l hJ  _ (-(gI (sI S_1 8 0 25 ((gI S_1 8 0 25) - (1 : Int32))) 34 0 (gI (sI S_1 8 0 25 ((gI S_1 8 0 25) - (1 : Int32))) 8 0 25).toNatClampNeg))) (fun _ => rfl) (fun r8 S9 h10 o11 => ?_)
        refine G_goto (t := 0) cx dX8_settle_69 (by decide) ?_
        exact G_loc [0, 1] rfl (ih_1 S9)
      refine G_aload_n (q := 24) cx dX8_settle_23 rfl rfl ?_
      refine G_getr (q := 27) (g := 34) (i' := 0) cx dX8_settle_24 rfl cf_8 fl_RX8_80 (Nat.le_of_ble_eq_true rfl) rfl rfl (Nat.le_of_ble_eq_true rfl) ?_
      refine G_aload_n (q := 28) cx dX8_settle_27 rfl rfl ?_
      refine G_geti (q := 31) cx dX8_settle_28 rfl cf_8 fl_RX8_86 (Nat.le_of_ble_eq_true rfl) rfl (Nat.le_of_ble_eq_true rfl) ?_
      refine G_iconst (q := 32) (v := (1 : Int32)) cx dX8_settle_31 rfl (by decide) ?_
      refine G_isub (q := 33) cx dX8_settle_32 rfl ?_
      refine G_iald (q := 34) cx dX8_settle_33 rfl (by decide) rfl rfl (Nat.le_of_ble_eq_true rfl) (fun g12 g13 => ?_)
      refine G_bipush (q := 36) (v := (124 : Int32)) cx dX8_settle_34 rfl (by decide) ?_
      refine G_icmp_ne (q := 39) (t := 72) cx dX8_settle_36 rfl (by decide) (fun c14 => ?_) (fun c14 => ?_)
      · exact G_loc [0, 1] rfl (hK_1 S_1)
      refine G_iload_n (q := 40) cx dX8_settle_39 rfl rfl ?_
      refine G_bipush (q := 42) (v := (38 : Int32)) cx dX8_settle_40 rfl (by decide) ?_
      refine G_icmp_eq (q := 45) (t := 72) cx dX8_settle_42 rfl (by decide) (fun c15 => ?_) (fun c15 => ?_)
      · exact G_loc [0, 1] rfl (hK_1 S_1)
      refine G_aload_n (q := 46) cx dX8_settle_45 rfl rfl ?_
      refine G_dup (q := 47) cx dX8_settle_46 rfl rfl ?_
      refine G_geti (q := 50) cx dX8_settle_47 rfl cf_8 fl_RX8_86 (Nat.le_of_ble_eq_true rfl) rfl (Nat.le_of_ble_eq_true rfl) ?_
      refine G_iconst (q := 51) (v := (1 : Int32)) cx dX8_settle_50 rfl (by decide) ?_
      refine G_isub (q := 52) cx dX8_settle_51 rfl ?_
      refine G_puti (q := 55) cx dX8_settle_52 rfl cf_8 fl_RX8_86 (Nat.le_of_ble_eq_true rfl) rfl rfl rfl rfl rfl (Nat.le_of_ble_eq_true rfl) ?_
      refine G_aload_n (q := 56) cx dX8_settle_55 rfl rfl ?_
      refine G_aload_n (q := 57) cx dX8_settle_56 rfl rfl ?_
      refine G_getr (q := 60) (g := 34) (i' := 0) cx dX8_settle_57 rfl cf_8 fl_RX8_80 (Nat.le_of_ble_eq_true rfl) rfl rfl (Nat.le_of_ble_eq_true rfl) ?_
      refine G_aload_n (q := 61) cx dX8_settle_60 rfl rfl ?_
      refine G_geti (q := 64) cx dX8_settle_61 rfl cf_8 fl_RX8_86 (Nat.le_of_ble_eq_true rfl) rfl (Nat.le_of_ble_eq_true rfl) ?_
      refine G_iald (q := 65) cx dX8_settle_64 rfl (by decide) rfl rfl (Nat.le_of_ble_eq_true rfl) (fun g16 g17 => ?_)
      refine G_ineg (q := 66) cx dX8_settle_65 rfl ?_
      refine G_callV (q := 69) (d' := 0) (f := 8) (i := 0) (As := [.int (-(gI (sI S_1 8 0 25 ((gI S_1 8 0 25) - (1 : Int32))) 34 0 (gI (sI S_1 8 0 25 ((gI S_1 8 0 25) - (1 : Int32))) 8 0 25).toNatClampNeg))]) (rest := []) (stk := fun _ => []) cx dX8_settle_66 rfl cf_8 (Nat.le_of_ble_eq_true rfl) ml_RX8_249 rfl rfl (Nat.le_of_ble_eq_true rfl) (Nat.le_of_ble_eq_true rfl) (Nat.le_of_ble_eq_true rfl) (c_X8_emits l hJ  _ (-(gI (sI S_1 8 0 25 ((gI S_1 8 0 25) - (1 : Int32))) 34 0 (gI (sI S_1 8 0 25 ((gI S_1 8 0 25) - (1 : Int32))) 8 0 25).toNatClampNeg))) (fun _ => rfl) (fun r18 S19 h20 o21 => ?_)
      refine G_goto (t := 0) cx dX8_settle_69 (by decide) ?_
      exact G_loc [0, 1] rfl (ih_1 S19)
  refine G_loc [0, 1] rfl (lp_1 _ (fun T_1 => ?_) 1000 S)
  exact G_vret cx rfl dX8_settle_72 trivial
def F_X8_place (S : St) (a1 : Int32) : Option (Int32 × St) :=
  if a1 = 104 then (some ((2 : Int32), S))
  else (if a1 = 107 then (some ((1 : Int32), S))
  else (if a1 = 108 then (some ((0 : Int32), S))
  else (if a1 = 109 then (some ((5 : Int32), S))
  else (if a1 = 116 then (some ((3 : Int32), S))
  else (if a1 = 118 then (some ((4 : Int32), S))
  else (some ((-1 : Int32), S)))))))
set_option maxRecDepth 10000 in
theorem c_X8_place (l : Launch) {D : va_G} {cy : Nat → ClassId} {ad : Nat → Nat → Nat} (hJ : wJ ad nM) (S : St) (a1 : Int32) : CT l yX8_place cX8_place 2 (some .int) 0 D cy ad nM toI okT [.ref (ad 8 0), .int a1] S (F_X8_place S a1) := by
  refine CT.of RX8 (by decide) rfl hJ (Nat.le_of_ble_eq_true rfl) rfl ?_
  intro p e s m below meth c cx
  unfold F_X8_place
  refine G_iload_n (q := 1) cx dX8_place_0 rfl rfl ?_
  refine G_case (fun w1 => ?_) (fun w1 => ?_)
  · refine G_tswIn (t := 80) (off := 79) cx dX8_place_1 w1 (by decide) (by decide) (by decide) (by decide) ?_
    refine G_iconst (q := 81) (v := (2 : Int32)) cx dX8_place_80 rfl (by decide) ?_
    exact G_iret cx rfl dX8_place_81 trivial
  refine G_case (fun w2 => ?_) (fun w2 => ?_)
  · refine G_tswIn (t := 78) (off := 77) cx dX8_place_1 w2 (by decide) (by decide) (by decide) (by decide) ?_
    refine G_iconst (q := 79) (v := (1 : Int32)) cx dX8_place_78 rfl (by decide) ?_
    exact G_iret cx rfl dX8_place_79 trivial
  refine G_case (fun w3 => ?_) (fun w3 => ?_)
  · refine G_tswIn (t := 76) (off := 75) cx dX8_place_1 w3 (by decide) (by decide) (by decide) (by decide) ?_
    refine G_iconst (q := 77) (v := (0 : Int32)) cx dX8_place_76 rfl (by decide) ?_
    exact G_iret cx rfl dX8_place_77 trivial
  refine G_case (fun w4 => ?_) (fun w4 => ?_)
  · refine G_tswIn (t := 86) (off := 85) cx dX8_place_1 w4 (by decide) (by decide) (by decide) (by decide) ?_
    refine G_iconst (q := 87) (v := (5 : Int32)) cx dX8_place_86 rfl (by decide) ?_
    exact G_iret cx rfl dX8_place_87 trivial
  refine G_case (fun w5 => ?_) (fun w5 => ?_)
  · refine G_tswIn (t := 82) (off := 81) cx dX8_place_1 w5 (by decide) (by decide) (by decide) (by decide) ?_
    refine G_iconst (q := 83) (v := (3 : Int32)) cx dX8_place_82 rfl (by decide) ?_
    exact G_iret cx rfl dX8_place_83 trivial
  refine G_case (fun w6 => ?_) (fun w6 => ?_)
  · refine G_tswIn (t := 84) (off := 83) cx dX8_place_1 w6 (by decide) (by decide) (by decide) (by decide) ?_
    refine G_iconst (q := 85) (v := (4 : Int32)) cx dX8_place_84 rfl (by decide) ?_
    exact G_iret cx rfl dX8_place_85 trivial
  have hz1_0 := lv_neT w1 (show (104 : Int32).toInt = 104 by decide)
  have hz1_1 := lv_neT w2 (show (107 : Int32).toInt = 107 by decide)
  have hz1_2 := lv_neT w3 (show (108 : Int32).toInt = 108 by decide)
  have hz1_3 := lv_neT w4 (show (109 : Int32).toInt = 109 by decide)
  have hz1_4 := lv_neT w5 (show (116 : Int32).toInt = 116 by decide)
  have hz1_5 := lv_neT w6 (show (118 : Int32).toInt = 118 by decide)
  refine G_tswDef (t := 88) cx dX8_place_1 (fun u1 u2 => by rcases (show a1.toInt = 105 ∨ a1.toInt = 106 ∨ a1.toInt = 110 ∨ a1.toInt = 111 ∨ a1.toInt = 112 ∨ a1.toInt = 113 ∨ a1.toInt = 114 ∨ a1.toInt = 115 ∨ a1.toInt = 117 by omega) with u | u | u | u | u | u | u | u | u <;> (rw [u]; decide)) (by decide) ?_
  refine G_iconst (q := 89) (v := (-1 : Int32)) cx dX8_place_88 rfl (by decide) ?_
  exact G_iret cx rfl dX8_place_89 trivial
def F_X8_takesTest (S : St) : Option (Int32 × St) :=
  bnd (F_X8_peek S) (fun r1 S2 =>
  bnd (F_X8_place S2 r1) (fun r5 S6 =>
  if 0 ≤ r5 then (bnd (F_X8_peek (sI S6 8 0 14 ((gI S6 8 0 14) + (1 : Int32)))) (fun r10 S11 =>
  bnd (F_X8_in S11 r10 (60 : Int32) (62 : Int32)) (fun r14 S15 =>
  if r14 = 0 then (some ((0 : Int32), S15))
  else (bnd (F_X8_takesNumber (sI S15 8 0 14 ((gI S15 8 0 14) + (1 : Int32)))) (fun r19 S20 =>
  if r19 = 0 then (some ((0 : Int32), S20))
  else (bnd (F_X8_emits S20 ((((1000 : Int32) * r5) + ((100 : Int32) * (r10 - (60 : Int32)))) + (gI S20 8 0 15))) (fun r24 S25 =>
  bnd (F_X8_whole S25) (fun r28 S29 =>
  some ((1 : Int32), S29)))))))))
  else (some ((0 : Int32), S6))))
set_option maxRecDepth 10000 in
theorem c_X8_takesTest (l : Launch) {D : va_G} {cy : Nat → ClassId} {ad : Nat → Nat → Nat} (hJ : wJ ad nM) (S : St) : CT l yX8_takesTest cX8_takesTest 3 (some .boolean) 3 D cy ad nM toI okZ [.ref (ad 8 0)] S (F_X8_takesTest S) := by
  refine CT.of RX8 (by decide) rfl hJ (Nat.le_of_ble_eq_true rfl) rfl ?_
  intro p e s m below meth c cx
  unfold F_X8_takesTest
  refine G_aload_n (q := 1) cx dX8_takesTest_0 rfl rfl ?_
  refine G_aload_n (q := 2) cx dX8_takesTest_1 rfl rfl ?_
  refine G_callV (q := 5) (d' := 0) (f := 8) (i := 0) (As := []) (rest := [.ref (ad 8 0)]) (stk := fun r1 => [.int r1, .ref (ad 8 0)]) cx dX8_takesTest_2 rfl cf_8 (Nat.le_of_ble_eq_true rfl) ml_RX8_238 rfl rfl (Nat.le_of_ble_eq_true rfl) (Nat.le_of_ble_eq_true rfl) (Nat.le_of_ble_eq_true rfl) (c_X8_peek l hJ  _) (fun _ => rfl) (fun r1 S2 h3 o4 => ?_)
  refine G_callV (q := 8) (d' := 0) (f := 8) (i := 0) (As := [.int r1]) (rest := []) (stk := fun r5 => [.int r5]) cx dX8_takesTest_5 rfl cf_8 (Nat.le_of_ble_eq_true rfl) ml_RX8_253 rfl rfl (Nat.le_of_ble_eq_true rfl) (Nat.le_of_ble_eq_true rfl) (Nat.le_of_ble_eq_true rfl) (c_X8_place l hJ  _ r1) (fun _ => rfl) (fun r5 S6 h7 o8 => ?_)
  refine G_istore_n (q := 9) (ls' := [(1, .int r5), (0, .ref (ad 8 0))]) cx dX8_takesTest_8 rfl rfl (Nat.le_of_ble_eq_true rfl) rfl ?_
  refine G_iload_n (q := 10) cx dX8_takesTest_9 rfl rfl ?_
  refine G_if_ge (q := 13) (t := 15) cx dX8_takesTest_10 rfl (by decide) (fun c9 => ?_) (fun c9 => ?_)
  · refine G_aload_n (q := 16) cx dX8_takesTest_15 rfl rfl ?_
    refine G_dup (q := 17) cx dX8_takesTest_16 rfl rfl ?_
    refine G_geti (q := 20) cx dX8_takesTest_17 rfl cf_8 fl_RX8_53 (Nat.le_of_ble_eq_true rfl) rfl (Nat.le_of_ble_eq_true rfl) ?_
    refine G_iconst (q := 21) (v := (1 : Int32)) cx dX8_takesTest_20 rfl (by decide) ?_
    refine G_iadd (q := 22) cx dX8_takesTest_21 rfl ?_
    refine G_puti (q := 25) cx dX8_takesTest_22 rfl cf_8 fl_RX8_53 (Nat.le_of_ble_eq_true rfl) rfl rfl rfl rfl rfl (Nat.le_of_ble_eq_true rfl) ?_
    refine G_aload_n (q := 26) cx dX8_takesTest_25 rfl rfl ?_
    refine G_callV (q := 29) (d' := 0) (f := 8) (i := 0) (As := []) (rest := []) (stk := fun r10 => [.int r10]) cx dX8_takesTest_26 rfl cf_8 (Nat.le_of_ble_eq_true rfl) ml_RX8_238 rfl rfl (Nat.le_of_ble_eq_true rfl) (Nat.le_of_ble_eq_true rfl) (Nat.le_of_ble_eq_true rfl) (c_X8_peek l hJ  _) (fun _ => rfl) (fun r10 S11 h12 o13 => ?_)
    refine G_istore_n (q := 30) (ls' := [(2, .int r10), (1, .int r5), (0, .ref (ad 8 0))]) cx dX8_takesTest_29 rfl rfl (Nat.le_of_ble_eq_true rfl) rfl ?_
    refine G_aload_n (q := 31) cx dX8_takesTest_30 rfl rfl ?_
    refine G_iload_n (q := 32) cx dX8_takesTest_31 rfl rfl ?_
    refine G_bipush (q := 34) (v := (60 : Int32)) cx dX8_takesTest_32 rfl (by decide) ?_
    refine G_bipush (q := 36) (v := (62 : Int32)) cx dX8_takesTest_34 rfl (by decide) ?_
    refine G_callV (q := 39) (d' := 0) (f := 8) (i := 0) (As := [.int r10, .int (60 : Int32), .int (62 : Int32)]) (rest := []) (stk := fun r14 => [.int r14]) cx dX8_takesTest_36 rfl cf_8 (Nat.le_of_ble_eq_true rfl) ml_RX8_227 rfl rfl (Nat.le_of_ble_eq_true rfl) (Nat.le_of_ble_eq_true rfl) (Nat.le_of_ble_eq_true rfl) (c_X8_in l hJ  _ r10 (60 : Int32) (62 : Int32)) (fun _ => rfl) (fun r14 S15 h16 o17 => ?_)
    refine G_if_ne (q := 42) (t := 44) cx dX8_takesTest_39 rfl (by decide) (fun c18 => ?_) (fun c18 => ?_)
    · refine G_aload_n (q := 45) cx dX8_takesTest_44 rfl rfl ?_
      refine G_dup (q := 46) cx dX8_takesTest_45 rfl rfl ?_
      refine G_geti (q := 49) cx dX8_takesTest_46 rfl cf_8 fl_RX8_53 (Nat.le_of_ble_eq_true rfl) rfl (Nat.le_of_ble_eq_true rfl) ?_
      refine G_iconst (q := 50) (v := (1 : Int32)) cx dX8_takesTest_49 rfl (by decide) ?_
      refine G_iadd (q := 51) cx dX8_takesTest_50 rfl ?_
      refine G_puti (q := 54) cx dX8_takesTest_51 rfl cf_8 fl_RX8_53 (Nat.le_of_ble_eq_true rfl) rfl rfl rfl rfl rfl (Nat.le_of_ble_eq_true rfl) ?_
      refine G_aload_n (q := 55) cx dX8_takesTest_54 rfl rfl ?_
      refine G_callV (q := 58) (d' := 2) (f := 8) (i := 0) (As := []) (rest := []) (stk := fun r19 => [.int r19]) cx dX8_takesTest_55 rfl cf_8 (Nat.le_of_ble_eq_true rfl) ml_RX8_257 rfl rfl (Nat.le_of_ble_eq_true rfl) (Nat.le_of_ble_eq_true rfl) (Nat.le_of_ble_eq_true rfl) (c_X8_takesNumber l hJ  _) (fun _ => rfl) (fun r19 S20 h21 o22 => ?_)
      refine G_if_ne (q := 61) (t := 63) cx dX8_takesTest_58 rfl (by decide) (fun c23 => ?_) (fun c23 => ?_)
      · refine G_aload_n (q := 64) cx dX8_takesTest_63 rfl rfl ?_
        refine G_sipush (q := 67) (v := (1000 : Int32)) cx dX8_takesTest_64 rfl (by decide) ?_
        refine G_iload_n (q := 68) cx dX8_takesTest_67 rfl rfl ?_
        refine G_imul (q := 69) cx dX8_takesTest_68 rfl ?_
        refine G_bipush (q := 71) (v := (100 : Int32)) cx dX8_takesTest_69 rfl (by decide) ?_
        refine G_iload_n (q := 72) cx dX8_takesTest_71 rfl rfl ?_
        refine G_bipush (q := 74) (v := (60 : Int32)) cx dX8_takesTest_72 rfl (by decide) ?_
        refine G_isub (q := 75) cx dX8_takesTest_74 rfl ?_
        refine G_imul (q := 76) cx dX8_takesTest_75 rfl ?_
        refine G_iadd (q := 77) cx dX8_takesTest_76 rfl ?_
        refine G_aload_n (q := 78) cx dX8_takesTest_77 rfl rfl ?_
        refine G_geti (q := 81) cx dX8_takesTest_78 rfl cf_8 fl_RX8_56 (Nat.le_of_ble_eq_true rfl) rfl (Nat.le_of_ble_eq_true rfl) ?_
        refine G_iadd (q := 82) cx dX8_takesTest_81 rfl ?_
        refine G_callV (q := 85) (d' := 0) (f := 8) (i := 0) (As := [.int ((((1000 : Int32) * r5) + ((100 : Int32) * (r10 - (60 : Int32)))) + (gI S20 8 0 15))]) (rest := []) (stk := fun _ => []) cx dX8_takesTest_82 rfl cf_8 (Nat.le_of_ble_eq_true rfl) ml_RX8_249 rfl rfl (Nat.le_of_ble_eq_true rfl) (Nat.le_of_ble_eq_true rfl) (Nat.le_of_ble_eq_true rfl) (c_X8_emits l hJ  _ ((((1000 : Int32) * r5) + ((100 : Int32) * (r10 - (60 : Int32)))) + (gI S20 8 0 15))) (fun _ => rfl) (fun r24 S25 h26 o27 => ?_)
        refine G_aload_n (q := 86) cx dX8_takesTest_85 rfl rfl ?_
        refine G_callV (q := 89) (d' := 1) (f := 8) (i := 0) (As := []) (rest := []) (stk := fun _ => []) cx dX8_takesTest_86 rfl cf_8 (Nat.le_of_ble_eq_true rfl) ml_RX8_260 rfl rfl (Nat.le_of_ble_eq_true rfl) (Nat.le_of_ble_eq_true rfl) (Nat.le_of_ble_eq_true rfl) (c_X8_whole l hJ  _) (fun _ => rfl) (fun r28 S29 h30 o31 => ?_)
        refine G_iconst (q := 90) (v := (1 : Int32)) cx dX8_takesTest_89 rfl (by decide) ?_
        exact G_zret (ty := .boolean) cx rfl dX8_takesTest_90 rfl rfl
      · refine G_iconst (q := 62) (v := (0 : Int32)) cx dX8_takesTest_61 rfl (by decide) ?_
        exact G_zret (ty := .boolean) cx rfl dX8_takesTest_62 rfl rfl
    · refine G_iconst (q := 43) (v := (0 : Int32)) cx dX8_takesTest_42 rfl (by decide) ?_
      exact G_zret (ty := .boolean) cx rfl dX8_takesTest_43 rfl rfl
  · refine G_iconst (q := 14) (v := (0 : Int32)) cx dX8_takesTest_13 rfl (by decide) ?_
    exact G_zret (ty := .boolean) cx rfl dX8_takesTest_14 rfl rfl
def L_X8_takesE_22 (a1 : Int32) : Nat → Int32 → St → Option (Int32 × St)
  | 0, _, _ => none
  | n + 1, x2_3, S_3 =>
    bnd (F_X8_peek S_3) (fun r4 S5 =>
    if x2_3 = 0 then (if r4 = (38 : Int32) then (bnd (F_X8_settle S5 r4) (fun r10 S11 =>
    if 0 ≤ (gI S11 8 0 25) ∧ (gI S11 8 0 25).toNatClampNeg < 101 then (L_X8_takesE_22 a1 n (1 : Int32) (sI (sI (sI S11 34 0 (gI S11 8 0 25).toNatClampNeg r4) 8 0 25 ((gI (sI S11 34 0 (gI S11 8 0 25).toNatClampNeg r4) 8 0 25) + (1 : Int32))) 8 0 14 ((gI (sI (sI S11 34 0 (gI S11 8 0 25).toNatClampNeg r4) 8 0 25 ((gI (sI S11 34 0 (gI S11 8 0 25).toNatClampNeg r4) 8 0 25) + (1 : Int32))) 8 0 14) + (1 : Int32))))
    else none))
    else (if r4 = (124 : Int32) then (bnd (F_X8_settle S5 r4) (fun r29 S30 =>
    if 0 ≤ (gI S30 8 0 25) ∧ (gI S30 8 0 25).toNatClampNeg < 101 then (L_X8_takesE_22 a1 n (1 : Int32) (sI (sI (sI S30 34 0 (gI S30 8 0 25).toNatClampNeg r4) 8 0 25 ((gI (sI S30 34 0 (gI S30 8 0 25).toNatClampNeg r4) 8 0 25) + (1 : Int32))) 8 0 14 ((gI (sI (sI S30 34 0 (gI S30 8 0 25).toNatClampNeg r4) 8 0 25 ((gI (sI S30 34 0 (gI S30 8 0 25).toNatClampNeg r4) 8 0 25) + (1 : Int32))) 8 0 14) + (1 : Int32))))
    else none))
    else (bnd (F_X8_settle S5 (124 : Int32)) (fun r17 S18 =>
    if 0 ≤ a1 ∧ a1.toNatClampNeg < 60 then (if (gI (sI S18 32 0 a1.toNatClampNeg (gI S18 8 0 24)) 8 0 25) = 0 then (some ((1 : Int32), (sI S18 32 0 a1.toNatClampNeg (gI S18 8 0 24))))
    else (if r4 = (41 : Int32) then (bnd (F_X8_whole (sI (sI (sI (sI S18 32 0 a1.toNatClampNeg (gI S18 8 0 24)) 8 0 25 ((gI (sI S18 32 0 a1.toNatClampNeg (gI S18 8 0 24)) 8 0 25) - (1 : Int32))) 8 0 26 ((gI (sI (sI S18 32 0 a1.toNatClampNeg (gI S18 8 0 24)) 8 0 25 ((gI (sI S18 32 0 a1.toNatClampNeg (gI S18 8 0 24)) 8 0 25) - (1 : Int32))) 8 0 26) - (1 : Int32))) 8 0 14 ((gI (sI (sI (sI S18 32 0 a1.toNatClampNeg (gI S18 8 0 24)) 8 0 25 ((gI (sI S18 32 0 a1.toNatClampNeg (gI S18 8 0 24)) 8 0 25) - (1 : Int32))) 8 0 26 ((gI (sI (sI S18 32 0 a1.toNatClampNeg (gI S18 8 0 24)) 8 0 25 ((gI (sI S18 32 0 a1.toNatClampNeg (gI S18 8 0 24)) 8 0 25) - (1 : Int32))) 8 0 26) - (1 : Int32))) 8 0 14) + (1 : Int32)))) (fun r25 S26 =>
    L_X8_takesE_22 a1 n x2_3 S26))
    else (some ((0 : Int32), (sI S18 32 0 a1.toNatClampNeg (gI S18 8 0 24))))))
    else none))))
    else (if r4 = (33 : Int32) then (if (gI S5 8 0 26) = (4 : Int32) then (some ((0 : Int32), S5))
    else (if 0 ≤ (gI (sI S5 8 0 26 ((gI S5 8 0 26) + (1 : Int32))) 8 0 25) ∧ (gI (sI S5 8 0 26 ((gI S5 8 0 26) + (1 : Int32))) 8 0 25).toNatClampNeg < 101 then (L_X8_takesE_22 a1 n x2_3 (sI (sI (sI (sI S5 8 0 26 ((gI S5 8 0 26) + (1 : Int32))) 34 0 (gI (sI S5 8 0 26 ((gI S5 8 0 26) + (1 : Int32))) 8 0 25).toNatClampNeg r4) 8 0 25 ((gI (sI (sI S5 8 0 26 ((gI S5 8 0 26) + (1 : Int32))) 34 0 (gI (sI S5 8 0 26 ((gI S5 8 0 26) + (1 : Int32))) 8 0 25).toNatClampNeg r4) 8 0 25) + (1 : Int32))) 8 0 14 ((gI (sI (sI (sI S5 8 0 26 ((gI S5 8 0 26) + (1 : Int32))) 34 0 (gI (sI S5 8 0 26 ((gI S5 8 0 26) + (1 : Int32))) 8 0 25).toNatClampNeg r4) 8 0 25 ((gI (sI (sI S5 8 0 26 ((gI S5 8 0 26) + (1 : Int32))) 34 0 (gI (sI S5 8 0 26 ((gI S5 8 0 26) + (1 : Int32))) 8 0 25).toNatClampNeg r4) 8 0 25) + (1 : Int32))) 8 0 14) + (1 : Int32))))
    else none))
    else (if r4 = (40 : Int32) then (if (gI S5 8 0 26) = (4 : Int32) then (some ((0 : Int32), S5))
    else (if 0 ≤ (gI (sI S5 8 0 26 ((gI S5 8 0 26) + (1 : Int32))) 8 0 25) ∧ (gI (sI S5 8 0 26 ((gI S5 8 0 26) + (1 : Int32))) 8 0 25).toNatClampNeg < 101 then (L_X8_takesE_22 a1 n x2_3 (sI (sI (sI (sI S5 8 0 26 ((gI S5 8 0 26) + (1 : Int32))) 34 0 (gI (sI S5 8 0 26 ((gI S5 8 0 26) + (1 : Int32))) 8 0 25).toNatClampNeg r4) 8 0 25 ((gI (sI (sI S5 8 0 26 ((gI S5 8 0 26) + (1 : Int32))) 34 0 (gI (sI S5 8 0 26 ((gI S5 8 0 26) + (1 : Int32))) 8 0 25).toNatClampNeg r4) 8 0 25) + (1 : Int32))) 8 0 14 ((gI (sI (sI (sI S5 8 0 26 ((gI S5 8 0 26) + (1 : Int32))) 34 0 (gI (sI S5 8 0 26 ((gI S5 8 0 26) + (1 : Int32))) 8 0 25).toNatClampNeg r4) 8 0 25 ((gI (sI (sI S5 8 0 26 ((gI S5 8 0 26) + (1 : Int32))) 34 0 (gI (sI S5 8 0 26 ((gI S5 8 0 26) + (1 : Int32))) 8 0 25).toNatClampNeg r4) 8 0 25) + (1 : Int32))) 8 0 14) + (1 : Int32))))
    else none))
    else (bnd (F_X8_takesTest S5) (fun r40 S41 =>
    if r40 = 0 then (some ((0 : Int32), S41))
    else (L_X8_takesE_22 a1 n (0 : Int32) S41))))))
def F_X8_takesE (S : St) (a1 : Int32) : Option (Int32 × St) :=
  if 0 ≤ a1 ∧ a1.toNatClampNeg < 60 then (L_X8_takesE_22 a1 1000 (1 : Int32) (sI (sI (sI S 8 0 25 (0 : Int32)) 8 0 26 (0 : Int32)) 31 0 a1.toNatClampNeg (gI (sI (sI S 8 0 25 (0 : Int32)) 8 0 26 (0 : Int32)) 8 0 24)))
  else none
set_option maxRecDepth 10000 in
theorem c_X8_takesE (l : Launch) {D : va_G} {cy : Nat → ClassId} {ad : Nat → Nat → Nat} (hJ : wJ ad nM) (S : St) (a1 : Int32) : CT l yX8_takesE cX8_takesE 4 (some .boolean) 4 D cy ad nM toI okZ [.ref (ad 8 0), .int a1] S (F_X8_takesE S a1) := by
  refine CT.of RX8 (by decide) rfl hJ (Nat.le_of_ble_eq_true rfl) rfl ?_
  intro p e s m below meth c cx
  unfold F_X8_takesE
  refine G_aload_n (q := 1) cx dX8_takesE_0 rfl rfl ?_
  refine G_iconst (q := 2) (v := (0 : Int32)) cx dX8_takesE_1 rfl (by decide) ?_
  refine G_puti (q := 5) cx dX8_takesE_2 rfl cf_8 fl_RX8_86 (Nat.le_of_ble_eq_true rfl) rfl rfl rfl rfl rfl (Nat.le_of_ble_eq_true rfl) ?_
  refine G_aload_n (q := 6) cx dX8_takesE_5 rfl rfl ?_
  refine G_iconst (q := 7) (v := (0 : Int32)) cx dX8_takesE_6 rfl (by decide) ?_
  refine G_puti (q := 10) cx dX8_takesE_7 rfl cf_8 fl_RX8_89 (Nat.le_of_ble_eq_true rfl) rfl rfl rfl rfl rfl (Nat.le_of_ble_eq_true rfl) ?_
  refine G_aload_n (q := 11) cx dX8_takesE_10 rfl rfl ?_
  refine G_getr (q := 14) (g := 31) (i' := 0) cx dX8_takesE_11 rfl cf_8 fl_RX8_71 (Nat.le_of_ble_eq_true rfl) rfl rfl (Nat.le_of_ble_eq_true rfl) ?_
  refine G_iload_n (q := 15) cx dX8_takesE_14 rfl rfl ?_
  refine G_aload_n (q := 16) cx dX8_takesE_15 rfl rfl ?_
  refine G_geti (q := 19) cx dX8_takesE_16 rfl cf_8 fl_RX8_83 (Nat.le_of_ble_eq_true rfl) rfl (Nat.le_of_ble_eq_true rfl) ?_
  refine G_iast (q := 20) cx dX8_takesE_19 rfl (by decide) rfl rfl (Nat.le_of_ble_eq_true rfl) (fun g1 g2 => ?_)
  refine G_iconst (q := 21) (v := (1 : Int32)) cx dX8_takesE_20 rfl (by decide) ?_
  refine G_istore_n (q := 22) (ls' := [(2, .int (1 : Int32)), (0, .ref (ad 8 0)), (1, .int a1)]) cx dX8_takesE_21 rfl rfl (Nat.le_of_ble_eq_true rfl) rfl ?_
  have lp_3 : ∀ (n_3 : Nat) (x2_3 : Int32) (S_3 : St), TG p l e 4 s m ([.ref (ad 8 0), .int a1] : List Value).toArray below meth c D cy ad nM toI okZ S_3 22 [(2, .int x2_3), (0, .ref (ad 8 0)), (1, .int a1)] [] (L_X8_takesE_22 a1 n_3 x2_3 S_3) := by
    intro n_3
    induction n_3 with
    | zero => intros; exact G_none
    | succ n_3 ih_3 =>
      intro x2_3 S_3
      rw [L_X8_takesE_22.eq_2]
      refine G_aload_n (q := 23) cx dX8_takesE_22 rfl rfl ?_
      refine G_callV (q := 26) (d' := 0) (f := 8) (i := 0) (As := []) (rest := []) (stk := fun r4 => [.int r4]) cx dX8_takesE_23 rfl cf_8 (Nat.le_of_ble_eq_true rfl) ml_RX8_238 rfl rfl (Nat.le_of_ble_eq_true rfl) (Nat.le_of_ble_eq_true rfl) (Nat.le_of_ble_eq_true rfl) (c_X8_peek l hJ  _) (fun _ => rfl) (fun r4 S5 h6 o7 => ?_)
      refine G_istore_n (q := 27) (ls' := [(3, .int r4), (2, .int x2_3), (0, .ref (ad 8 0)), (1, .int a1)]) cx dX8_takesE_26 rfl rfl (Nat.le_of_ble_eq_true rfl) rfl ?_
      refine G_iload_n (q := 28) cx dX8_takesE_27 rfl rfl ?_
      refine G_if_eq (q := 31) (t := 110) cx dX8_takesE_28 rfl (by decide) (fun c8 => ?_) (fun c8 => ?_)
      · refine G_iload_n (q := 111) cx dX8_takesE_110 rfl rfl ?_
        refine G_bipush (q := 113) (v := (38 : Int32)) cx dX8_takesE_111 rfl (by decide) ?_
        refine G_icmp_eq (q := 116) (t := 122) cx dX8_takesE_113 rfl (by decide) (fun c9 => ?_) (fun c9 => ?_)
        · refine G_aload_n (q := 123) cx dX8_takesE_122 rfl rfl ?_
          refine G_iload_n (q := 124) cx dX8_takesE_123 rfl rfl ?_
          refine G_callV (q := 127) (d' := 1) (f := 8) (i := 0) (As := [.int r4]) (rest := []) (stk := fun _ => []) cx dX8_takesE_124 rfl cf_8 (Nat.le_of_ble_eq_true rfl) ml_RX8_266 rfl rfl (Nat.le_of_ble_eq_true rfl) (Nat.le_of_ble_eq_true rfl) (Nat.le_of_ble_eq_true rfl) (c_X8_settle l hJ  _ r4) (fun _ => rfl) (fun r10 S11 h12 o13 => ?_)
          refine G_aload_n (q := 128) cx dX8_takesE_127 rfl rfl ?_
          refine G_getr (q := 131) (g := 34) (i' := 0) cx dX8_takesE_128 rfl cf_8 fl_RX8_80 (Nat.le_of_ble_eq_true rfl) rfl rfl (Nat.le_of_ble_eq_true rfl) ?_
          refine G_aload_n (q := 132) cx dX8_takesE_131 rfl rfl ?_
          refine G_geti (q := 135) cx dX8_takesE_132 rfl cf_8 fl_RX8_86 (Nat.le_of_ble_eq_true rfl) rfl (Nat.le_of_ble_eq_true rfl) ?_
          refine G_iload_n (q := 136) cx dX8_takesE_135 rfl rfl ?_
          refine G_iast (q := 137) cx dX8_takesE_136 rfl (by decide) rfl rfl (Nat.le_of_ble_eq_true rfl) (fun g14 g15 => ?_)
          refine G_aload_n (q := 138) cx dX8_takesE_137 rfl rfl ?_
          refine G_dup (q := 139) cx dX8_takesE_138 rfl rfl ?_
          refine G_geti (q := 142) cx dX8_takesE_139 rfl cf_8 fl_RX8_86 (Nat.le_of_ble_eq_true rfl) rfl (Nat.le_of_ble_eq_true rfl) ?_
          refine G_iconst (q := 143) (v := (1 : Int32)) cx dX8_takesE_142 rfl (by decide) ?_
          refine G_iadd (q := 144) cx dX8_takesE_143 rfl ?_
          refine G_puti (q := 147) cx dX8_takesE_144 rfl cf_8 fl_RX8_86 (Nat.le_of_ble_eq_true rfl) rfl rfl rfl rfl rfl (Nat.le_of_ble_eq_true rfl) ?_
          refine G_iconst (q := 148) (v := (1 : Int32)) cx dX8_takesE_147 rfl (by decide) ?_
          refine G_istore_n (q := 149) (ls' := [(2, .int (1 : Int32)), (3, .int r4), (0, .ref (ad 8 0)), (1, .int a1)]) cx dX8_takesE_148 rfl rfl (Nat.le_of_ble_eq_true rfl) rfl ?_
          refine G_aload_n (q := 150) cx dX8_takesE_149 rfl rfl ?_
          refine G_dup (q := 151) cx dX8_takesE_150 rfl rfl ?_
          refine G_geti (q := 154) cx dX8_takesE_151 rfl cf_8 fl_RX8_53 (Nat.le_of_ble_eq_true rfl) rfl (Nat.le_of_ble_eq_true rfl) ?_
          refine G_iconst (q := 155) (v := (1 : Int32)) cx dX8_takesE_154 rfl (by decide) ?_
          refine G_iadd (q := 156) cx dX8_takesE_155 rfl ?_
          refine G_puti (q := 159) cx dX8_takesE_156 rfl cf_8 fl_RX8_53 (Nat.le_of_ble_eq_true rfl) rfl rfl rfl rfl rfl (Nat.le_of_ble_eq_true rfl) ?_
          refine G_goto (t := 22) cx dX8_takesE_159 (by decide) ?_
          exact G_loc [0, 2, 3] rfl (ih_3 (1 : Int32) (sI (sI (sI S11 34 0 (gI S11 8 0 25).toNatClampNeg r4) 8 0 25 ((gI (sI S11 34 0 (gI S11 8 0 25).toNatClampNeg r4) 8 0 25) + (1 : Int32))) 8 0 14 ((gI (sI (sI S11 34 0 (gI S11 8 0 25).toNatClampNeg r4) 8 0 25 ((gI (sI S11 34 0 (gI S11 8 0 25).toNatClampNeg r4) 8 0 25) + (1 : Int32))) 8 0 14) + (1 : Int32))))
        refine G_iload_n (q := 117) cx dX8_takesE_116 rfl rfl ?_
        refine G_bipush (q := 119) (v := (124 : Int32)) cx dX8_takesE_117 rfl (by decide) ?_
        refine G_icmp_ne (q := 122) (t := 162) cx dX8_takesE_119 rfl (by decide) (fun c16 => ?_) (fun c16 => ?_)
        · refine G_aload_n (q := 163) cx dX8_takesE_162 rfl rfl ?_
          refine G_bipush (q := 165) (v := (124 : Int32)) cx dX8_takesE_163 rfl (by decide) ?_
          refine G_callV (q := 168) (d' := 1) (f := 8) (i := 0) (As := [.int (124 : Int32)]) (rest := []) (stk := fun _ => []) cx dX8_takesE_165 rfl cf_8 (Nat.le_of_ble_eq_true rfl) ml_RX8_266 rfl rfl (Nat.le_of_ble_eq_true rfl) (Nat.le_of_ble_eq_true rfl) (Nat.le_of_ble_eq_true rfl) (c_X8_settle l hJ  _ (124 : Int32)) (fun _ => rfl) (fun r17 S18 h19 o20 => ?_)
          refine G_aload_n (q := 169) cx dX8_takesE_168 rfl rfl ?_
          refine G_getr (q := 172) (g := 32) (i' := 0) cx dX8_takesE_169 rfl cf_8 fl_RX8_74 (Nat.le_of_ble_eq_true rfl) rfl rfl (Nat.le_of_ble_eq_true rfl) ?_
          refine G_iload_n (q := 173) cx dX8_takesE_172 rfl rfl ?_
          refine G_aload_n (q := 174) cx dX8_takesE_173 rfl rfl ?_
          refine G_geti (q := 177) cx dX8_takesE_174 rfl cf_8 fl_RX8_83 (Nat.le_of_ble_eq_true rfl) rfl (Nat.le_of_ble_eq_true rfl) ?_
          refine G_iast (q := 178) cx dX8_takesE_177 rfl (by decide) rfl rfl (Nat.le_of_ble_eq_true rfl) (fun g21 g22 => ?_)
          refine G_aload_n (q := 179) cx dX8_takesE_178 rfl rfl ?_
          refine G_geti (q := 182) cx dX8_takesE_179 rfl cf_8 fl_RX8_86 (Nat.le_of_ble_eq_true rfl) rfl (Nat.le_of_ble_eq_true rfl) ?_
          refine G_if_ne (q := 185) (t := 187) cx dX8_takesE_182 rfl (by decide) (fun c23 => ?_) (fun c23 => ?_)
          · refine G_iload_n (q := 188) cx dX8_takesE_187 rfl rfl ?_
            refine G_bipush (q := 190) (v := (41 : Int32)) cx dX8_takesE_188 rfl (by decide) ?_
            refine G_icmp_eq (q := 193) (t := 195) cx dX8_takesE_190 rfl (by decide) (fun c24 => ?_) (fun c24 => ?_)
            · refine G_aload_n (q := 196) cx dX8_takesE_195 rfl rfl ?_
              refine G_dup (q := 197) cx dX8_takesE_196 rfl rfl ?_
              refine G_geti (q := 200) cx dX8_takesE_197 rfl cf_8 fl_RX8_86 (Nat.le_of_ble_eq_true rfl) rfl (Nat.le_of_ble_eq_true rfl) ?_
              refine G_iconst (q := 201) (v := (1 : Int32)) cx dX8_takesE_200 rfl (by decide) ?_
              refine G_isub (q := 202) cx dX8_takesE_201 rfl ?_
              refine G_puti (q := 205) cx dX8_takesE_202 rfl cf_8 fl_RX8_86 (Nat.le_of_ble_eq_true rfl) rfl rfl rfl rfl rfl (Nat.le_of_ble_eq_true rfl) ?_
              refine G_aload_n (q := 206) cx dX8_takesE_205 rfl rfl ?_
              refine G_dup (q := 207) cx dX8_takesE_206 rfl rfl ?_
              refine G_geti (q := 210) cx dX8_takesE_207 rfl cf_8 fl_RX8_89 (Nat.le_of_ble_eq_true rfl) rfl (Nat.le_of_ble_eq_true rfl) ?_
              refine G_iconst (q := 211) (v := (1 : Int32)) cx dX8_takesE_210 rfl (by decide) ?_
              refine G_isub (q := 212) cx dX8_takesE_211 rfl ?_
              refine G_puti (q := 215) cx dX8_takesE_212 rfl cf_8 fl_RX8_89 (Nat.le_of_ble_eq_true rfl) rfl rfl rfl rfl rfl (Nat.le_of_ble_eq_true rfl) ?_
              refine G_aload_n (q := 216) cx dX8_takesE_215 rfl rfl ?_
              refine G_dup (q := 217) cx dX8_takesE_216 rfl rfl ?_
              refine G_geti (q := 220) cx dX8_takesE_217 rfl cf_8 fl_RX8_53 (Nat.le_of_ble_eq_true rfl) rfl (Nat.le_of_ble_eq_true rfl) ?_
              refine G_iconst (q := 221) (v := (1 : Int32)) cx dX8_takesE_220 rfl (by decide) ?_
              refine G_iadd (q := 222) cx dX8_takesE_221 rfl ?_
              refine G_puti (q := 225) cx dX8_takesE_222 rfl cf_8 fl_RX8_53 (Nat.le_of_ble_eq_true rfl) rfl rfl rfl rfl rfl (Nat.le_of_ble_eq_true rfl) ?_
              refine G_aload_n (q := 226) cx dX8_takesE_225 rfl rfl ?_
              refine G_callV (q := 229) (d' := 1) (f := 8) (i := 0) (As := []) (rest := []) (stk := fun _ => []) cx dX8_takesE_226 rfl cf_8 (Nat.le_of_ble_eq_true rfl) ml_RX8_260 rfl rfl (Nat.le_of_ble_eq_true rfl) (Nat.le_of_ble_eq_true rfl) (Nat.le_of_ble_eq_true rfl) (c_X8_whole l hJ  _) (fun _ => rfl) (fun r25 S26 h27 o28 => ?_)
              refine G_goto (t := 22) cx dX8_takesE_229 (by decide) ?_
              exact G_loc [1, 2, 3] rfl (ih_3 x2_3 S26)
            · refine G_iconst (q := 194) (v := (0 : Int32)) cx dX8_takesE_193 rfl (by decide) ?_
              exact G_zret (ty := .boolean) cx rfl dX8_takesE_194 rfl rfl
          · refine G_iconst (q := 186) (v := (1 : Int32)) cx dX8_takesE_185 rfl (by decide) ?_
            exact G_zret (ty := .boolean) cx rfl dX8_takesE_186 rfl rfl
        refine G_aload_n (q := 123) cx dX8_takesE_122 rfl rfl ?_
        refine G_iload_n (q := 124) cx dX8_takesE_123 rfl rfl ?_
        refine G_callV (q := 127) (d' := 1) (f := 8) (i := 0) (As := [.int r4]) (rest := []) (stk := fun _ => []) cx dX8_takesE_124 rfl cf_8 (Nat.le_of_ble_eq_true rfl) ml_RX8_266 rfl rfl (Nat.le_of_ble_eq_true rfl) (Nat.le_of_ble_eq_true rfl) (Nat.le_of_ble_eq_true rfl) (c_X8_settle l hJ  _ r4) (fun _ => rfl) (fun r29 S30 h31 o32 => ?_)
        refine G_aload_n (q := 128) cx dX8_takesE_127 rfl rfl ?_
        refine G_getr (q := 131) (g := 34) (i' := 0) cx dX8_takesE_128 rfl cf_8 fl_RX8_80 (Nat.le_of_ble_eq_true rfl) rfl rfl (Nat.le_of_ble_eq_true rfl) ?_
        refine G_aload_n (q := 132) cx dX8_takesE_131 rfl rfl ?_
        refine G_geti (q := 135) cx dX8_takesE_132 rfl cf_8 fl_RX8_86 (Nat.le_of_ble_eq_true rfl) rfl (Nat.le_of_ble_eq_true rfl) ?_
        refine G_iload_n (q := 136) cx dX8_takesE_135 rfl rfl ?_
        refine G_iast (q := 137) cx dX8_takesE_136 rfl (by decide) rfl rfl (Nat.le_of_ble_eq_true rfl) (fun g33 g34 => ?_)
        refine G_aload_n (q := 138) cx dX8_takesE_137 rfl rfl ?_
        refine G_dup (q := 139) cx dX8_takesE_138 rfl rfl ?_
        refine G_geti (q := 142) cx dX8_takesE_139 rfl cf_8 fl_RX8_86 (Nat.le_of_ble_eq_true rfl) rfl (Nat.le_of_ble_eq_true rfl) ?_
        refine G_iconst (q := 143) (v := (1 : Int32)) cx dX8_takesE_142 rfl (by decide) ?_
        refine G_iadd (q := 144) cx dX8_takesE_143 rfl ?_
        refine G_puti (q := 147) cx dX8_takesE_144 rfl cf_8 fl_RX8_86 (Nat.le_of_ble_eq_true rfl) rfl rfl rfl rfl rfl (Nat.le_of_ble_eq_true rfl) ?_
        refine G_iconst (q := 148) (v := (1 : Int32)) cx dX8_takesE_147 rfl (by decide) ?_
        refine G_istore_n (q := 149) (ls' := [(2, .int (1 : Int32)), (3, .int r4), (0, .ref (ad 8 0)), (1, .int a1)]) cx dX8_takesE_148 rfl rfl (Nat.le_of_ble_eq_true rfl) rfl ?_
        refine G_aload_n (q := 150) cx dX8_takesE_149 rfl rfl ?_
        refine G_dup (q := 151) cx dX8_takesE_150 rfl rfl ?_
        refine G_geti (q := 154) cx dX8_takesE_151 rfl cf_8 fl_RX8_53 (Nat.le_of_ble_eq_true rfl) rfl (Nat.le_of_ble_eq_true rfl) ?_
        refine G_iconst (q := 155) (v := (1 : Int32)) cx dX8_takesE_154 rfl (by decide) ?_
        refine G_iadd (q := 156) cx dX8_takesE_155 rfl ?_
        refine G_puti (q := 159) cx dX8_takesE_156 rfl cf_8 fl_RX8_53 (Nat.le_of_ble_eq_true rfl) rfl rfl rfl rfl rfl (Nat.le_of_ble_eq_true rfl) ?_
        refine G_goto (t := 22) cx dX8_takesE_159 (by decide) ?_
        exact G_loc [0, 2, 3] rfl (ih_3 (1 : Int32) (sI (sI (sI S30 34 0 (gI S30 8 0 25).toNatClampNeg r4) 8 0 25 ((gI (sI S30 34 0 (gI S30 8 0 25).toNatClampNeg r4) 8 0 25) + (1 : Int32))) 8 0 14 ((gI (sI (sI S30 34 0 (gI S30 8 0 25).toNatClampNeg r4) 8 0 25 ((gI (sI S30 34 0 (gI S30 8 0 25).toNatClampNeg r4) 8 0 25) + (1 : Int32))) 8 0 14) + (1 : Int32))))
      refine G_iload_n (q := 32) cx dX8_takesE_31 rfl rfl ?_
      refine G_bipush (q := 34) (v := (33 : Int32)) cx dX8_takesE_32 rfl (by decide) ?_
      refine G_icmp_eq (q := 37) (t := 43) cx dX8_takesE_34 rfl (by decide) (fun c35 => ?_) (fun c35 => ?_)
      · refine G_aload_n (q := 44) cx dX8_takesE_43 rfl rfl ?_
        refine G_geti (q := 47) cx dX8_takesE_44 rfl cf_8 fl_RX8_89 (Nat.le_of_ble_eq_true rfl) rfl (Nat.le_of_ble_eq_true rfl) ?_
        refine G_iconst (q := 48) (v := (4 : Int32)) cx dX8_takesE_47 rfl (by decide) ?_
        refine G_icmp_ne (q := 51) (t := 53) cx dX8_takesE_48 rfl (by decide) (fun c36 => ?_) (fun c36 => ?_)
        · refine G_aload_n (q := 54) cx dX8_takesE_53 rfl rfl ?_
          refine G_dup (q := 55) cx dX8_takesE_54 rfl rfl ?_
          refine G_geti (q := 58) cx dX8_takesE_55 rfl cf_8 fl_RX8_89 (Nat.le_of_ble_eq_true rfl) rfl (Nat.le_of_ble_eq_true rfl) ?_
          refine G_iconst (q := 59) (v := (1 : Int32)) cx dX8_takesE_58 rfl (by decide) ?_
          refine G_iadd (q := 60) cx dX8_takesE_59 rfl ?_
          refine G_puti (q := 63) cx dX8_takesE_60 rfl cf_8 fl_RX8_89 (Nat.le_of_ble_eq_true rfl) rfl rfl rfl rfl rfl (Nat.le_of_ble_eq_true rfl) ?_
          refine G_aload_n (q := 64) cx dX8_takesE_63 rfl rfl ?_
          refine G_getr (q := 67) (g := 34) (i' := 0) cx dX8_takesE_64 rfl cf_8 fl_RX8_80 (Nat.le_of_ble_eq_true rfl) rfl rfl (Nat.le_of_ble_eq_true rfl) ?_
          refine G_aload_n (q := 68) cx dX8_takesE_67 rfl rfl ?_
          refine G_geti (q := 71) cx dX8_takesE_68 rfl cf_8 fl_RX8_86 (Nat.le_of_ble_eq_true rfl) rfl (Nat.le_of_ble_eq_true rfl) ?_
          refine G_iload_n (q := 72) cx dX8_takesE_71 rfl rfl ?_
          refine G_iast (q := 73) cx dX8_takesE_72 rfl (by decide) rfl rfl (Nat.le_of_ble_eq_true rfl) (fun g37 g38 => ?_)
          refine G_aload_n (q := 74) cx dX8_takesE_73 rfl rfl ?_
          refine G_dup (q := 75) cx dX8_takesE_74 rfl rfl ?_
          refine G_geti (q := 78) cx dX8_takesE_75 rfl cf_8 fl_RX8_86 (Nat.le_of_ble_eq_true rfl) rfl (Nat.le_of_ble_eq_true rfl) ?_
          refine G_iconst (q := 79) (v := (1 : Int32)) cx dX8_takesE_78 rfl (by decide) ?_
          refine G_iadd (q := 80) cx dX8_takesE_79 rfl ?_
          refine G_puti (q := 83) cx dX8_takesE_80 rfl cf_8 fl_RX8_86 (Nat.le_of_ble_eq_true rfl) rfl rfl rfl rfl rfl (Nat.le_of_ble_eq_true rfl) ?_
          refine G_aload_n (q := 84) cx dX8_takesE_83 rfl rfl ?_
          refine G_dup (q := 85) cx dX8_takesE_84 rfl rfl ?_
          refine G_geti (q := 88) cx dX8_takesE_85 rfl cf_8 fl_RX8_53 (Nat.le_of_ble_eq_true rfl) rfl (Nat.le_of_ble_eq_true rfl) ?_
          refine G_iconst (q := 89) (v := (1 : Int32)) cx dX8_takesE_88 rfl (by decide) ?_
          refine G_iadd (q := 90) cx dX8_takesE_89 rfl ?_
          refine G_puti (q := 93) cx dX8_takesE_90 rfl cf_8 fl_RX8_53 (Nat.le_of_ble_eq_true rfl) rfl rfl rfl rfl rfl (Nat.le_of_ble_eq_true rfl) ?_
          refine G_goto (t := 22) cx dX8_takesE_93 (by decide) ?_
          exact G_loc [1, 2, 3] rfl (ih_3 x2_3 (sI (sI (sI (sI S5 8 0 26 ((gI S5 8 0 26) + (1 : Int32))) 34 0 (gI (sI S5 8 0 26 ((gI S5 8 0 26) + (1 : Int32))) 8 0 25).toNatClampNeg r4) 8 0 25 ((gI (sI (sI S5 8 0 26 ((gI S5 8 0 26) + (1 : Int32))) 34 0 (gI (sI S5 8 0 26 ((gI S5 8 0 26) + (1 : Int32))) 8 0 25).toNatClampNeg r4) 8 0 25) + (1 : Int32))) 8 0 14 ((gI (sI (sI (sI S5 8 0 26 ((gI S5 8 0 26) + (1 : Int32))) 34 0 (gI (sI S5 8 0 26 ((gI S5 8 0 26) + (1 : Int32))) 8 0 25).toNatClampNeg r4) 8 0 25 ((gI (sI (sI S5 8 0 26 ((gI S5 8 0 26) + (1 : Int32))) 34 0 (gI (sI S5 8 0 26 ((gI S5 8 0 26) + (1 : Int32))) 8 0 25).toNatClampNeg r4) 8 0 25) + (1 : Int32))) 8 0 14) + (1 : Int32))))
        · refine G_iconst (q := 52) (v := (0 : Int32)) cx dX8_takesE_51 rfl (by decide) ?_
          exact G_zret (ty := .boolean) cx rfl dX8_takesE_52 rfl rfl
      refine G_iload_n (q := 38) cx dX8_takesE_37 rfl rfl ?_
      refine G_bipush (q := 40) (v := (40 : Int32)) cx dX8_takesE_38 rfl (by decide) ?_
      refine G_icmp_ne (q := 43) (t := 96) cx dX8_takesE_40 rfl (by decide) (fun c39 => ?_) (fun c39 => ?_)
      · refine G_aload_n (q := 97) cx dX8_takesE_96 rfl rfl ?_
        refine G_callV (q := 100) (d' := 3) (f := 8) (i := 0) (As := []) (rest := []) (stk := fun r40 => [.int r40]) cx dX8_takesE_97 rfl cf_8 (Nat.le_of_ble_eq_true rfl) ml_RX8_263 rfl rfl (Nat.le_of_ble_eq_true rfl) (Nat.le_of_ble_eq_true rfl) (Nat.le_of_ble_eq_true rfl) (c_X8_takesTest l hJ  _) (fun _ => rfl) (fun r40 S41 h42 o43 => ?_)
        refine G_if_eq (q := 103) (t := 108) cx dX8_takesE_100 rfl (by decide) (fun c44 => ?_) (fun c44 => ?_)
        · refine G_iconst (q := 109) (v := (0 : Int32)) cx dX8_takesE_108 rfl (by decide) ?_
          exact G_zret (ty := .boolean) cx rfl dX8_takesE_109 rfl rfl
        refine G_iconst (q := 104) (v := (0 : Int32)) cx dX8_takesE_103 rfl (by decide) ?_
        refine G_istore_n (q := 105) (ls' := [(2, .int (0 : Int32)), (3, .int r4), (0, .ref (ad 8 0)), (1, .int a1)]) cx dX8_takesE_104 rfl rfl (Nat.le_of_ble_eq_true rfl) rfl ?_
        refine G_goto (t := 22) cx dX8_takesE_105 (by decide) ?_
        exact G_loc [0, 2, 3] rfl (ih_3 (0 : Int32) S41)
      refine G_aload_n (q := 44) cx dX8_takesE_43 rfl rfl ?_
      refine G_geti (q := 47) cx dX8_takesE_44 rfl cf_8 fl_RX8_89 (Nat.le_of_ble_eq_true rfl) rfl (Nat.le_of_ble_eq_true rfl) ?_
      refine G_iconst (q := 48) (v := (4 : Int32)) cx dX8_takesE_47 rfl (by decide) ?_
      refine G_icmp_ne (q := 51) (t := 53) cx dX8_takesE_48 rfl (by decide) (fun c45 => ?_) (fun c45 => ?_)
      · refine G_aload_n (q := 54) cx dX8_takesE_53 rfl rfl ?_
        refine G_dup (q := 55) cx dX8_takesE_54 rfl rfl ?_
        refine G_geti (q := 58) cx dX8_takesE_55 rfl cf_8 fl_RX8_89 (Nat.le_of_ble_eq_true rfl) rfl (Nat.le_of_ble_eq_true rfl) ?_
        refine G_iconst (q := 59) (v := (1 : Int32)) cx dX8_takesE_58 rfl (by decide) ?_
        refine G_iadd (q := 60) cx dX8_takesE_59 rfl ?_
        refine G_puti (q := 63) cx dX8_takesE_60 rfl cf_8 fl_RX8_89 (Nat.le_of_ble_eq_true rfl) rfl rfl rfl rfl rfl (Nat.le_of_ble_eq_true rfl) ?_
        refine G_aload_n (q := 64) cx dX8_takesE_63 rfl rfl ?_
        refine G_getr (q := 67) (g := 34) (i' := 0) cx dX8_takesE_64 rfl cf_8 fl_RX8_80 (Nat.le_of_ble_eq_true rfl) rfl rfl (Nat.le_of_ble_eq_true rfl) ?_
        refine G_aload_n (q := 68) cx dX8_takesE_67 rfl rfl ?_
        refine G_geti (q := 71) cx dX8_takesE_68 rfl cf_8 fl_RX8_86 (Nat.le_of_ble_eq_true rfl) rfl (Nat.le_of_ble_eq_true rfl) ?_
        refine G_iload_n (q := 72) cx dX8_takesE_71 rfl rfl ?_
        refine G_iast (q := 73) cx dX8_takesE_72 rfl (by decide) rfl rfl (Nat.le_of_ble_eq_true rfl) (fun g46 g47 => ?_)
        refine G_aload_n (q := 74) cx dX8_takesE_73 rfl rfl ?_
        refine G_dup (q := 75) cx dX8_takesE_74 rfl rfl ?_
        refine G_geti (q := 78) cx dX8_takesE_75 rfl cf_8 fl_RX8_86 (Nat.le_of_ble_eq_true rfl) rfl (Nat.le_of_ble_eq_true rfl) ?_
        refine G_iconst (q := 79) (v := (1 : Int32)) cx dX8_takesE_78 rfl (by decide) ?_
        refine G_iadd (q := 80) cx dX8_takesE_79 rfl ?_
        refine G_puti (q := 83) cx dX8_takesE_80 rfl cf_8 fl_RX8_86 (Nat.le_of_ble_eq_true rfl) rfl rfl rfl rfl rfl (Nat.le_of_ble_eq_true rfl) ?_
        refine G_aload_n (q := 84) cx dX8_takesE_83 rfl rfl ?_
        refine G_dup (q := 85) cx dX8_takesE_84 rfl rfl ?_
        refine G_geti (q := 88) cx dX8_takesE_85 rfl cf_8 fl_RX8_53 (Nat.le_of_ble_eq_true rfl) rfl (Nat.le_of_ble_eq_true rfl) ?_
        refine G_iconst (q := 89) (v := (1 : Int32)) cx dX8_takesE_88 rfl (by decide) ?_
        refine G_iadd (q := 90) cx dX8_takesE_89 rfl ?_
        refine G_puti (q := 93) cx dX8_takesE_90 rfl cf_8 fl_RX8_53 (Nat.le_of_ble_eq_true rfl) rfl rfl rfl rfl rfl (Nat.le_of_ble_eq_true rfl) ?_
        refine G_goto (t := 22) cx dX8_takesE_93 (by decide) ?_
        exact G_loc [1, 2, 3] rfl (ih_3 x2_3 (sI (sI (sI (sI S5 8 0 26 ((gI S5 8 0 26) + (1 : Int32))) 34 0 (gI (sI S5 8 0 26 ((gI S5 8 0 26) + (1 : Int32))) 8 0 25).toNatClampNeg r4) 8 0 25 ((gI (sI (sI S5 8 0 26 ((gI S5 8 0 26) + (1 : Int32))) 34 0 (gI (sI S5 8 0 26 ((gI S5 8 0 26) + (1 : Int32))) 8 0 25).toNatClampNeg r4) 8 0 25) + (1 : Int32))) 8 0 14 ((gI (sI (sI (sI S5 8 0 26 ((gI S5 8 0 26) + (1 : Int32))) 34 0 (gI (sI S5 8 0 26 ((gI S5 8 0 26) + (1 : Int32))) 8 0 25).toNatClampNeg r4) 8 0 25 ((gI (sI (sI S5 8 0 26 ((gI S5 8 0 26) + (1 : Int32))) 34 0 (gI (sI S5 8 0 26 ((gI S5 8 0 26) + (1 : Int32))) 8 0 25).toNatClampNeg r4) 8 0 25) + (1 : Int32))) 8 0 14) + (1 : Int32))))
      · refine G_iconst (q := 52) (v := (0 : Int32)) cx dX8_takesE_51 rfl (by decide) ?_
        exact G_zret (ty := .boolean) cx rfl dX8_takesE_52 rfl rfl
  exact G_loc [0, 1, 2] rfl (lp_3 1000 (1 : Int32) (sI (sI (sI S 8 0 25 (0 : Int32)) 8 0 26 (0 : Int32)) 31 0 a1.toNatClampNeg (gI (sI (sI S 8 0 25 (0 : Int32)) 8 0 26 (0 : Int32)) 8 0 24)))
def F_X8_takesHead (S : St) (a1 : Int32) : Option (Int32 × St) :=
  bnd (F_X8_peek S) (fun r1 S2 =>
  if r1 = 98 then (if 0 ≤ a1 ∧ a1.toNatClampNeg < 60 then (bnd (F_X8_takesWord (sI S2 29 0 a1.toNatClampNeg (2 : Int32)) (6 : Int32) (4 : Int32)) (fun r8 S9 =>
  some (r8, S9)))
  else none)
  else (if r1 = 100 then (if 0 ≤ a1 ∧ a1.toNatClampNeg < 60 then (bnd (F_X8_takesWord (sI S2 29 0 a1.toNatClampNeg (1 : Int32)) (2 : Int32) (4 : Int32)) (fun r15 S16 =>
  some (r15, S16)))
  else none)
  else (if r1 = 117 then (if 0 ≤ a1 ∧ a1.toNatClampNeg < 60 then (bnd (F_X8_takesWord (sI S2 29 0 a1.toNatClampNeg (0 : Int32)) (0 : Int32) (2 : Int32)) (fun r22 S23 =>
  some (r22, S23)))
  else none)
  else (if 0 ≤ a1 ∧ a1.toNatClampNeg < 60 then (bnd (F_X8_takesWord (sI S2 29 0 a1.toNatClampNeg (3 : Int32)) (10 : Int32) (4 : Int32)) (fun r28 S29 =>
  some (r28, S29)))
  else none))))
set_option maxRecDepth 10000 in
theorem c_X8_takesHead (l : Launch) {D : va_G} {cy : Nat → ClassId} {ad : Nat → Nat → Nat} (hJ : wJ ad nM) (S : St) (a1 : Int32) : CT l yX8_takesHead cX8_takesHead 2 (some .boolean) 3 D cy ad nM toI okZ [.ref (ad 8 0), .int a1] S (F_X8_takesHead S a1) := by
  refine CT.of RX8 (by decide) rfl hJ (Nat.le_of_ble_eq_true rfl) rfl ?_
  intro p e s m below meth c cx
  unfold F_X8_takesHead
  refine G_aload_n (q := 1) cx dX8_takesHead_0 rfl rfl ?_
  refine G_callV (q := 4) (d' := 0) (f := 8) (i := 0) (As := []) (rest := []) (stk := fun r1 => [.int r1]) cx dX8_takesHead_1 rfl cf_8 (Nat.le_of_ble_eq_true rfl) ml_RX8_238 rfl rfl (Nat.le_of_ble_eq_true rfl) (Nat.le_of_ble_eq_true rfl) (Nat.le_of_ble_eq_true rfl) (c_X8_peek l hJ  _) (fun _ => rfl) (fun r1 S2 h3 o4 => ?_)
  refine G_case (fun w5 => ?_) (fun w5 => ?_)
  · refine G_lsw (t := 68) (off := 64) cx dX8_takesHead_4 (by decide) (by rw [w5] <;> decide) (by decide) ?_
    refine G_aload_n (q := 69) cx dX8_takesHead_68 rfl rfl ?_
    refine G_getr (q := 72) (g := 29) (i' := 0) cx dX8_takesHead_69 rfl cf_8 fl_RX8_65 (Nat.le_of_ble_eq_true rfl) rfl rfl (Nat.le_of_ble_eq_true rfl) ?_
    refine G_iload_n (q := 73) cx dX8_takesHead_72 rfl rfl ?_
    refine G_iconst (q := 74) (v := (2 : Int32)) cx dX8_takesHead_73 rfl (by decide) ?_
    refine G_iast (q := 75) cx dX8_takesHead_74 rfl (by decide) rfl rfl (Nat.le_of_ble_eq_true rfl) (fun g6 g7 => ?_)
    refine G_aload_n (q := 76) cx dX8_takesHead_75 rfl rfl ?_
    refine G_bipush (q := 78) (v := (6 : Int32)) cx dX8_takesHead_76 rfl (by decide) ?_
    refine G_iconst (q := 79) (v := (4 : Int32)) cx dX8_takesHead_78 rfl (by decide) ?_
    refine G_callV (q := 82) (d' := 2) (f := 8) (i := 0) (As := [.int (6 : Int32), .int (4 : Int32)]) (rest := []) (stk := fun r8 => [.int r8]) cx dX8_takesHead_79 rfl cf_8 (Nat.le_of_ble_eq_true rfl) ml_RX8_269 rfl rfl (Nat.le_of_ble_eq_true rfl) (Nat.le_of_ble_eq_true rfl) (Nat.le_of_ble_eq_true rfl) (c_X8_takesWord l hJ  _ (6 : Int32) (4 : Int32)) (fun _ => rfl) (fun r8 S9 h10 o11 => ?_)
    exact G_zret (ty := .boolean) cx rfl dX8_takesHead_82 o11 o11
  refine G_case (fun w12 => ?_) (fun w12 => ?_)
  · refine G_lsw (t := 54) (off := 50) cx dX8_takesHead_4 (by decide) (by rw [w12] <;> decide) (by decide) ?_
    refine G_aload_n (q := 55) cx dX8_takesHead_54 rfl rfl ?_
    refine G_getr (q := 58) (g := 29) (i' := 0) cx dX8_takesHead_55 rfl cf_8 fl_RX8_65 (Nat.le_of_ble_eq_true rfl) rfl rfl (Nat.le_of_ble_eq_true rfl) ?_
    refine G_iload_n (q := 59) cx dX8_takesHead_58 rfl rfl ?_
    refine G_iconst (q := 60) (v := (1 : Int32)) cx dX8_takesHead_59 rfl (by decide) ?_
    refine G_iast (q := 61) cx dX8_takesHead_60 rfl (by decide) rfl rfl (Nat.le_of_ble_eq_true rfl) (fun g13 g14 => ?_)
    refine G_aload_n (q := 62) cx dX8_takesHead_61 rfl rfl ?_
    refine G_iconst (q := 63) (v := (2 : Int32)) cx dX8_takesHead_62 rfl (by decide) ?_
    refine G_iconst (q := 64) (v := (4 : Int32)) cx dX8_takesHead_63 rfl (by decide) ?_
    refine G_callV (q := 67) (d' := 2) (f := 8) (i := 0) (As := [.int (2 : Int32), .int (4 : Int32)]) (rest := []) (stk := fun r15 => [.int r15]) cx dX8_takesHead_64 rfl cf_8 (Nat.le_of_ble_eq_true rfl) ml_RX8_269 rfl rfl (Nat.le_of_ble_eq_true rfl) (Nat.le_of_ble_eq_true rfl) (Nat.le_of_ble_eq_true rfl) (c_X8_takesWord l hJ  _ (2 : Int32) (4 : Int32)) (fun _ => rfl) (fun r15 S16 h17 o18 => ?_)
    exact G_zret (ty := .boolean) cx rfl dX8_takesHead_67 o18 o18
  refine G_case (fun w19 => ?_) (fun w19 => ?_)
  · refine G_lsw (t := 40) (off := 36) cx dX8_takesHead_4 (by decide) (by rw [w19] <;> decide) (by decide) ?_
    refine G_aload_n (q := 41) cx dX8_takesHead_40 rfl rfl ?_
    refine G_getr (q := 44) (g := 29) (i' := 0) cx dX8_takesHead_41 rfl cf_8 fl_RX8_65 (Nat.le_of_ble_eq_true rfl) rfl rfl (Nat.le_of_ble_eq_true rfl) ?_
    refine G_iload_n (q := 45) cx dX8_takesHead_44 rfl rfl ?_
    refine G_iconst (q := 46) (v := (0 : Int32)) cx dX8_takesHead_45 rfl (by decide) ?_
    refine G_iast (q := 47) cx dX8_takesHead_46 rfl (by decide) rfl rfl (Nat.le_of_ble_eq_true rfl) (fun g20 g21 => ?_)
    refine G_aload_n (q := 48) cx dX8_takesHead_47 rfl rfl ?_
    refine G_iconst (q := 49) (v := (0 : Int32)) cx dX8_takesHead_48 rfl (by decide) ?_
    refine G_iconst (q := 50) (v := (2 : Int32)) cx dX8_takesHead_49 rfl (by decide) ?_
    refine G_callV (q := 53) (d' := 2) (f := 8) (i := 0) (As := [.int (0 : Int32), .int (2 : Int32)]) (rest := []) (stk := fun r22 => [.int r22]) cx dX8_takesHead_50 rfl cf_8 (Nat.le_of_ble_eq_true rfl) ml_RX8_269 rfl rfl (Nat.le_of_ble_eq_true rfl) (Nat.le_of_ble_eq_true rfl) (Nat.le_of_ble_eq_true rfl) (c_X8_takesWord l hJ  _ (0 : Int32) (2 : Int32)) (fun _ => rfl) (fun r22 S23 h24 o25 => ?_)
    exact G_zret (ty := .boolean) cx rfl dX8_takesHead_53 o25 o25
  refine G_lsw (t := 83) (off := 79) cx dX8_takesHead_4 (by decide) (by show Op.lookupswitch.offset [(98, 64), (100, 50), (117, 36)] 79 _ = _; rw [lv_osw w5 (show (98 : Int32).toInt = 98 by decide)]; rw [lv_osw w12 (show (100 : Int32).toInt = 100 by decide)]; rw [lv_osw w19 (show (117 : Int32).toInt = 117 by decide)] <;> rfl) (by decide) ?_
  refine G_aload_n (q := 84) cx dX8_takesHead_83 rfl rfl ?_
  refine G_getr (q := 87) (g := 29) (i' := 0) cx dX8_takesHead_84 rfl cf_8 fl_RX8_65 (Nat.le_of_ble_eq_true rfl) rfl rfl (Nat.le_of_ble_eq_true rfl) ?_
  refine G_iload_n (q := 88) cx dX8_takesHead_87 rfl rfl ?_
  refine G_iconst (q := 89) (v := (3 : Int32)) cx dX8_takesHead_88 rfl (by decide) ?_
  refine G_iast (q := 90) cx dX8_takesHead_89 rfl (by decide) rfl rfl (Nat.le_of_ble_eq_true rfl) (fun g26 g27 => ?_)
  refine G_aload_n (q := 91) cx dX8_takesHead_90 rfl rfl ?_
  refine G_bipush (q := 93) (v := (10 : Int32)) cx dX8_takesHead_91 rfl (by decide) ?_
  refine G_iconst (q := 94) (v := (4 : Int32)) cx dX8_takesHead_93 rfl (by decide) ?_
  refine G_callV (q := 97) (d' := 2) (f := 8) (i := 0) (As := [.int (10 : Int32), .int (4 : Int32)]) (rest := []) (stk := fun r28 => [.int r28]) cx dX8_takesHead_94 rfl cf_8 (Nat.le_of_ble_eq_true rfl) ml_RX8_269 rfl rfl (Nat.le_of_ble_eq_true rfl) (Nat.le_of_ble_eq_true rfl) (Nat.le_of_ble_eq_true rfl) (c_X8_takesWord l hJ  _ (10 : Int32) (4 : Int32)) (fun _ => rfl) (fun r28 S29 h30 o31 => ?_)
  exact G_zret (ty := .boolean) cx rfl dX8_takesHead_97 o31 o31
def F_X8_takesClause (S : St) (a1 : Int32) : Option (Int32 × St) :=
  bnd (F_X8_takesHead S a1) (fun r1 S2 =>
  if r1 = 0 then (some ((0 : Int32), S2))
  else (bnd (F_X8_takesNumber S2) (fun r6 S7 =>
  if r6 = 0 then (some ((0 : Int32), S7))
  else (if 0 ≤ a1 ∧ a1.toNatClampNeg < 60 then (if 0 ≤ a1 ∧ a1.toNatClampNeg < 60 then (if (2 : Int32) ≤ (gI (sI S7 30 0 a1.toNatClampNeg (gI S7 8 0 15)) 29 0 a1.toNatClampNeg) then (some ((1 : Int32), (sI S7 30 0 a1.toNatClampNeg (gI S7 8 0 15))))
  else (bnd (F_X8_takes (sI S7 30 0 a1.toNatClampNeg (gI S7 8 0 15)) (32 : Int32)) (fun r16 S17 =>
  if r16 = 0 then (some ((0 : Int32), S17))
  else (bnd (F_X8_takesE S17 a1) (fun r21 S22 =>
  if r21 = 0 then (some ((0 : Int32), S22))
  else (some ((1 : Int32), S22)))))))
  else none)
  else none))))
set_option maxRecDepth 10000 in
theorem c_X8_takesClause (l : Launch) {D : va_G} {cy : Nat → ClassId} {ad : Nat → Nat → Nat} (hJ : wJ ad nM) (S : St) (a1 : Int32) : CT l yX8_takesClause cX8_takesClause 2 (some .boolean) 5 D cy ad nM toI okZ [.ref (ad 8 0), .int a1] S (F_X8_takesClause S a1) := by
  refine CT.of RX8 (by decide) rfl hJ (Nat.le_of_ble_eq_true rfl) rfl ?_
  intro p e s m below meth c cx
  unfold F_X8_takesClause
  refine G_aload_n (q := 1) cx dX8_takesClause_0 rfl rfl ?_
  refine G_iload_n (q := 2) cx dX8_takesClause_1 rfl rfl ?_
  refine G_callV (q := 5) (d' := 3) (f := 8) (i := 0) (As := [.int a1]) (rest := []) (stk := fun r1 => [.int r1]) cx dX8_takesClause_2 rfl cf_8 (Nat.le_of_ble_eq_true rfl) ml_RX8_273 rfl rfl (Nat.le_of_ble_eq_true rfl) (Nat.le_of_ble_eq_true rfl) (Nat.le_of_ble_eq_true rfl) (c_X8_takesHead l hJ  _ a1) (fun _ => rfl) (fun r1 S2 h3 o4 => ?_)
  refine G_if_eq (q := 8) (t := 15) cx dX8_takesClause_5 rfl (by decide) (fun c5 => ?_) (fun c5 => ?_)
  · refine G_iconst (q := 16) (v := (0 : Int32)) cx dX8_takesClause_15 rfl (by decide) ?_
    exact G_zret (ty := .boolean) cx rfl dX8_takesClause_16 rfl rfl
  refine G_aload_n (q := 9) cx dX8_takesClause_8 rfl rfl ?_
  refine G_callV (q := 12) (d' := 2) (f := 8) (i := 0) (As := []) (rest := []) (stk := fun r6 => [.int r6]) cx dX8_takesClause_9 rfl cf_8 (Nat.le_of_ble_eq_true rfl) ml_RX8_257 rfl rfl (Nat.le_of_ble_eq_true rfl) (Nat.le_of_ble_eq_true rfl) (Nat.le_of_ble_eq_true rfl) (c_X8_takesNumber l hJ  _) (fun _ => rfl) (fun r6 S7 h8 o9 => ?_)
  refine G_if_ne (q := 15) (t := 17) cx dX8_takesClause_12 rfl (by decide) (fun c10 => ?_) (fun c10 => ?_)
  · refine G_aload_n (q := 18) cx dX8_takesClause_17 rfl rfl ?_
    refine G_getr (q := 21) (g := 30) (i' := 0) cx dX8_takesClause_18 rfl cf_8 fl_RX8_68 (Nat.le_of_ble_eq_true rfl) rfl rfl (Nat.le_of_ble_eq_true rfl) ?_
    refine G_iload_n (q := 22) cx dX8_takesClause_21 rfl rfl ?_
    refine G_aload_n (q := 23) cx dX8_takesClause_22 rfl rfl ?_
    refine G_geti (q := 26) cx dX8_takesClause_23 rfl cf_8 fl_RX8_56 (Nat.le_of_ble_eq_true rfl) rfl (Nat.le_of_ble_eq_true rfl) ?_
    refine G_iast (q := 27) cx dX8_takesClause_26 rfl (by decide) rfl rfl (Nat.le_of_ble_eq_true rfl) (fun g11 g12 => ?_)
    refine G_aload_n (q := 28) cx dX8_takesClause_27 rfl rfl ?_
    refine G_getr (q := 31) (g := 29) (i' := 0) cx dX8_takesClause_28 rfl cf_8 fl_RX8_65 (Nat.le_of_ble_eq_true rfl) rfl rfl (Nat.le_of_ble_eq_true rfl) ?_
    refine G_iload_n (q := 32) cx dX8_takesClause_31 rfl rfl ?_
    refine G_iald (q := 33) cx dX8_takesClause_32 rfl (by decide) rfl rfl (Nat.le_of_ble_eq_true rfl) (fun g13 g14 => ?_)
    refine G_iconst (q := 34) (v := (2 : Int32)) cx dX8_takesClause_33 rfl (by decide) ?_
    refine G_icmp_ge (q := 37) (t := 54) cx dX8_takesClause_34 rfl (by decide) (fun c15 => ?_) (fun c15 => ?_)
    · refine G_iconst (q := 55) (v := (1 : Int32)) cx dX8_takesClause_54 rfl (by decide) ?_
      refine G_goto (t := 59) cx dX8_takesClause_55 (by decide) ?_
      exact G_zret (ty := .boolean) cx rfl dX8_takesClause_59 rfl rfl
    refine G_aload_n (q := 38) cx dX8_takesClause_37 rfl rfl ?_
    refine G_bipush (q := 40) (v := (32 : Int32)) cx dX8_takesClause_38 rfl (by decide) ?_
    refine G_callV (q := 43) (d' := 1) (f := 8) (i := 0) (As := [.int (32 : Int32)]) (rest := []) (stk := fun r16 => [.int r16]) cx dX8_takesClause_40 rfl cf_8 (Nat.le_of_ble_eq_true rfl) ml_RX8_242 rfl rfl (Nat.le_of_ble_eq_true rfl) (Nat.le_of_ble_eq_true rfl) (Nat.le_of_ble_eq_true rfl) (c_X8_takes l hJ  _ (32 : Int32)) (fun _ => rfl) (fun r16 S17 h18 o19 => ?_)
    refine G_if_eq (q := 46) (t := 58) cx dX8_takesClause_43 rfl (by decide) (fun c20 => ?_) (fun c20 => ?_)
    · refine G_iconst (q := 59) (v := (0 : Int32)) cx dX8_takesClause_58 rfl (by decide) ?_
      exact G_zret (ty := .boolean) cx rfl dX8_takesClause_59 rfl rfl
    refine G_aload_n (q := 47) cx dX8_takesClause_46 rfl rfl ?_
    refine G_iload_n (q := 48) cx dX8_takesClause_47 rfl rfl ?_
    refine G_callV (q := 51) (d' := 4) (f := 8) (i := 0) (As := [.int a1]) (rest := []) (stk := fun r21 => [.int r21]) cx dX8_takesClause_48 rfl cf_8 (Nat.le_of_ble_eq_true rfl) ml_RX8_276 rfl rfl (Nat.le_of_ble_eq_true rfl) (Nat.le_of_ble_eq_true rfl) (Nat.le_of_ble_eq_true rfl) (c_X8_takesE l hJ  _ a1) (fun _ => rfl) (fun r21 S22 h23 o24 => ?_)
    refine G_if_eq (q := 54) (t := 58) cx dX8_takesClause_51 rfl (by decide) (fun c25 => ?_) (fun c25 => ?_)
    · refine G_iconst (q := 59) (v := (0 : Int32)) cx dX8_takesClause_58 rfl (by decide) ?_
      exact G_zret (ty := .boolean) cx rfl dX8_takesClause_59 rfl rfl
    · refine G_iconst (q := 55) (v := (1 : Int32)) cx dX8_takesClause_54 rfl (by decide) ?_
      refine G_goto (t := 59) cx dX8_takesClause_55 (by decide) ?_
      exact G_zret (ty := .boolean) cx rfl dX8_takesClause_59 rfl rfl
  · refine G_iconst (q := 16) (v := (0 : Int32)) cx dX8_takesClause_15 rfl (by decide) ?_
    exact G_zret (ty := .boolean) cx rfl dX8_takesClause_16 rfl rfl
