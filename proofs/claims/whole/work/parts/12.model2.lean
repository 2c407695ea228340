def F_X8_glide (S : St) (a1 : Int32) (a2 : Int32) : Option (Int32 × St) :=
  bnd (F_X8_isMile S a1) (fun r1 S2 =>
  if r1 = 0 then (some ((-2 : Int32), S2))
  else (bnd (F_X8_isPace S2 a2) (fun r6 S7 =>
  if r6 = 0 then (some ((-2 : Int32), S7))
  else (bnd (F_X8_apart S7 (gI S7 8 0 2) a1) (fun r11 S12 =>
  if (9999 : Int32) < ((gI S7 8 0 1) + (r11 * ((10 : Int32) - a2))) then (some ((-3 : Int32), S12))
  else (bnd (F_X8_goGlide S12 a1 a2) (fun r16 S17 =>
  if r16 = 0 then (some ((-3 : Int32), S17))
  else (some (gI (sI S17 8 0 4 (-1 : Int32)) 8 0 3, (sI S17 8 0 4 (-1 : Int32)))))))))))
set_option maxRecDepth 10000 in
theorem c_X8_glide (l : Launch) {D : va_G} {cy : Nat → ClassId} {ad : Nat → Nat → Nat} (hJ : wJ ad nM) (S : St) (a1 : Int32) (a2 : Int32) : CT l yX8_glide cX8_glide 3 (some .int) 3 D cy ad nM toI okT [.ref (ad 8 0), .int a1, .int a2] S (F_X8_glide S a1 a2) := by
  refine CT.of RX8 (by decide) rfl hJ (Nat.le_of_ble_eq_true rfl) rfl ?_
  intro p e s m below meth c cx
  unfold F_X8_glide
  refine G_aload_n (q := 1) cx dX8_glide_0 rfl rfl ?_
  refine G_iload_n (q := 2) cx dX8_glide_1 rfl rfl ?_
  refine G_callV (q := 5) (d' := 1) (f := 8) (i := 0) (As := [.int a1]) (rest := []) (stk := fun r1 => [.int r1]) cx dX8_glide_2 rfl cf_8 (Nat.le_of_ble_eq_true rfl) ml_RX8_231 rfl rfl (Nat.le_of_ble_eq_true rfl) (Nat.le_of_ble_eq_true rfl) (Nat.le_of_ble_eq_true rfl) (c_X8_isMile l hJ  _ a1) (fun _ => rfl) (fun r1 S2 h3 o4 => ?_)
  refine G_if_eq (q := 8) (t := 16) cx dX8_glide_5 rfl (by decide) (fun c5 => ?_) (fun c5 => ?_)
  · refine G_bipush (q := 18) (v := (-2 : Int32)) cx dX8_glide_16 rfl (by decide) ?_
    exact G_iret cx rfl dX8_glide_18 trivial
  refine G_aload_n (q := 9) cx dX8_glide_8 rfl rfl ?_
  refine G_iload_n (q := 10) cx dX8_glide_9 rfl rfl ?_
  refine G_callV (q := 13) (d' := 1) (f := 8) (i := 0) (As := [.int a2]) (rest := []) (stk := fun r6 => [.int r6]) cx dX8_glide_10 rfl cf_8 (Nat.le_of_ble_eq_true rfl) ml_RX8_326 rfl rfl (Nat.le_of_ble_eq_true rfl) (Nat.le_of_ble_eq_true rfl) (Nat.le_of_ble_eq_true rfl) (c_X8_isPace l hJ  _ a2) (fun _ => rfl) (fun r6 S7 h8 o9 => ?_)
  refine G_if_ne (q := 16) (t := 19) cx dX8_glide_13 rfl (by decide) (fun c10 => ?_) (fun c10 => ?_)
  · refine G_aload_n (q := 20) cx dX8_glide_19 rfl rfl ?_
    refine G_geti (q := 23) cx dX8_glide_20 rfl cf_8 fl_RX8_13 (Nat.le_of_ble_eq_true rfl) rfl (Nat.le_of_ble_eq_true rfl) ?_
    refine G_aload_n (q := 24) cx dX8_glide_23 rfl rfl ?_
    refine G_aload_n (q := 25) cx dX8_glide_24 rfl rfl ?_
    refine G_geti (q := 28) cx dX8_glide_25 rfl cf_8 fl_RX8_16 (Nat.le_of_ble_eq_true rfl) rfl (Nat.le_of_ble_eq_true rfl) ?_
    refine G_iload_n (q := 29) cx dX8_glide_28 rfl rfl ?_
    refine G_callV (q := 32) (d' := 0) (f := 8) (i := 0) (As := [.int (gI S7 8 0 2), .int a1]) (rest := [.int (gI S7 8 0 1)]) (stk := fun r11 => [.int r11, .int (gI S7 8 0 1)]) cx dX8_glide_29 rfl cf_8 (Nat.le_of_ble_eq_true rfl) ml_RX8_313 rfl rfl (Nat.le_of_ble_eq_true rfl) (Nat.le_of_ble_eq_true rfl) (Nat.le_of_ble_eq_true rfl) (c_X8_apart l hJ  _ (gI S7 8 0 2) a1) (fun _ => rfl) (fun r11 S12 h13 o14 => ?_)
    refine G_bipush (q := 34) (v := (10 : Int32)) cx dX8_glide_32 rfl (by decide) ?_
    refine G_iload_n (q := 35) cx dX8_glide_34 rfl rfl ?_
    refine G_isub (q := 36) cx dX8_glide_35 rfl ?_
    refine G_imul (q := 37) cx dX8_glide_36 rfl ?_
    refine G_iadd (q := 38) cx dX8_glide_37 rfl ?_
    refine G_sipush (q := 41) (v := (9999 : Int32)) cx dX8_glide_38 rfl (by decide) ?_
    refine G_icmp_gt (q := 44) (t := 53) cx dX8_glide_41 rfl (by decide) (fun c15 => ?_) (fun c15 => ?_)
    · refine G_bipush (q := 55) (v := (-3 : Int32)) cx dX8_glide_53 rfl (by decide) ?_
      exact G_iret cx rfl dX8_glide_55 trivial
    refine G_aload_n (q := 45) cx dX8_glide_44 rfl rfl ?_
    refine G_iload_n (q := 46) cx dX8_glide_45 rfl rfl ?_
    refine G_iload_n (q := 47) cx dX8_glide_46 rfl rfl ?_
    refine G_callV (q := 50) (d' := 2) (f := 8) (i := 0) (As := [.int a1, .int a2]) (rest := []) (stk := fun r16 => [.int r16]) cx dX8_glide_47 rfl cf_8 (Nat.le_of_ble_eq_true rfl) ml_RX8_329 rfl rfl (Nat.le_of_ble_eq_true rfl) (Nat.le_of_ble_eq_true rfl) (Nat.le_of_ble_eq_true rfl) (c_X8_goGlide l hJ  _ a1 a2) (fun _ => rfl) (fun r16 S17 h18 o19 => ?_)
    refine G_if_ne (q := 53) (t := 56) cx dX8_glide_50 rfl (by decide) (fun c20 => ?_) (fun c20 => ?_)
    · refine G_aload_n (q := 57) cx dX8_glide_56 rfl rfl ?_
      refine G_iconst (q := 58) (v := (-1 : Int32)) cx dX8_glide_57 rfl (by decide) ?_
      refine G_puti (q := 61) cx dX8_glide_58 rfl cf_8 fl_RX8_22 (Nat.le_of_ble_eq_true rfl) rfl rfl rfl rfl rfl (Nat.le_of_ble_eq_true rfl) ?_
      refine G_aload_n (q := 62) cx dX8_glide_61 rfl rfl ?_
      refine G_geti (q := 65) cx dX8_glide_62 rfl cf_8 fl_RX8_19 (Nat.le_of_ble_eq_true rfl) rfl (Nat.le_of_ble_eq_true rfl) ?_
      exact G_iret cx rfl dX8_glide_65 trivial
    · refine G_bipush (q := 55) (v := (-3 : Int32)) cx dX8_glide_53 rfl (by decide) ?_
      exact G_iret cx rfl dX8_glide_55 trivial
  · refine G_bipush (q := 18) (v := (-2 : Int32)) cx dX8_glide_16 rfl (by decide) ?_
    exact G_iret cx rfl dX8_glide_18 trivial
def F_X8_save (S : St) : Option (Unit × St) :=
  some ((), (sI (sI (sI S 8 0 29 (gI S 8 0 1)) 8 0 30 (gI (sI S 8 0 29 (gI S 8 0 1)) 8 0 2)) 8 0 31 (gI (sI (sI S 8 0 29 (gI S 8 0 1)) 8 0 30 (gI (sI S 8 0 29 (gI S 8 0 1)) 8 0 2)) 8 0 3)))
set_option maxRecDepth 10000 in
theorem c_X8_save (l : Launch) {D : va_G} {cy : Nat → ClassId} {ad : Nat → Nat → Nat} (hJ : wJ ad nM) (S : St) : CT l yX8_save cX8_save 1 none 0 D cy ad nM toU okT [.ref (ad 8 0)] S (F_X8_save S) := by
  refine CT.of RX8 (by decide) rfl hJ (Nat.le_of_ble_eq_true rfl) rfl ?_
  intro p e s m below meth c cx
  unfold F_X8_save
  refine G_aload_n (q := 1) cx dX8_save_0 rfl rfl ?_
  refine G_aload_n (q := 2) cx dX8_save_1 rfl rfl ?_
  refine G_geti (q := 5) cx dX8_save_2 rfl cf_8 fl_RX8_13 (Nat.le_of_ble_eq_true rfl) rfl (Nat.le_of_ble_eq_true rfl) ?_
  refine G_puti (q := 8) cx dX8_save_5 rfl cf_8 fl_RX8_99 (Nat.le_of_ble_eq_true rfl) rfl rfl rfl rfl rfl (Nat.le_of_ble_eq_true rfl) ?_
  refine G_aload_n (q := 9) cx dX8_save_8 rfl rfl ?_
  refine G_aload_n (q := 10) cx dX8_save_9 rfl rfl ?_
  refine G_geti (q := 13) cx dX8_save_10 rfl cf_8 fl_RX8_16 (Nat.le_of_ble_eq_true rfl) rfl (Nat.le_of_ble_eq_true rfl) ?_
  refine G_puti (q := 16) cx dX8_save_13 rfl cf_8 fl_RX8_102 (Nat.le_of_ble_eq_true rfl) rfl rfl rfl rfl rfl (Nat.le_of_ble_eq_true rfl) ?_
  refine G_aload_n (q := 17) cx dX8_save_16 rfl rfl ?_
  refine G_aload_n (q := 18) cx dX8_save_17 rfl rfl ?_
  refine G_geti (q := 21) cx dX8_save_18 rfl cf_8 fl_RX8_19 (Nat.le_of_ble_eq_true rfl) rfl (Nat.le_of_ble_eq_true rfl) ?_
  refine G_puti (q := 24) cx dX8_save_21 rfl cf_8 fl_RX8_105 (Nat.le_of_ble_eq_true rfl) rfl rfl rfl rfl rfl (Nat.le_of_ble_eq_true rfl) ?_
  exact G_vret cx rfl dX8_save_24 trivial
def F_X8_putBack (S : St) : Option (Unit × St) :=
  some ((), (sI (sI (sI S 8 0 1 (gI S 8 0 29)) 8 0 2 (gI (sI S 8 0 1 (gI S 8 0 29)) 8 0 30)) 8 0 3 (gI (sI (sI S 8 0 1 (gI S 8 0 29)) 8 0 2 (gI (sI S 8 0 1 (gI S 8 0 29)) 8 0 30)) 8 0 31)))
set_option maxRecDepth 10000 in
theorem c_X8_putBack (l : Launch) {D : va_G} {cy : Nat → ClassId} {ad : Nat → Nat → Nat} (hJ : wJ ad nM) (S : St) : CT l yX8_putBack cX8_putBack 1 none 0 D cy ad nM toU okT [.ref (ad 8 0)] S (F_X8_putBack S) := by
  refine CT.of RX8 (by decide) rfl hJ (Nat.le_of_ble_eq_true rfl) rfl ?_
  intro p e s m below meth c cx
  unfold F_X8_putBack
  refine G_aload_n (q := 1) cx dX8_putBack_0 rfl rfl ?_
  refine G_aload_n (q := 2) cx dX8_putBack_1 rfl rfl ?_
  refine G_geti (q := 5) cx dX8_putBack_2 rfl cf_8 fl_RX8_99 (Nat.le_of_ble_eq_true rfl) rfl (Nat.le_of_ble_eq_true rfl) ?_
  refine G_puti (q := 8) cx dX8_putBack_5 rfl cf_8 fl_RX8_13 (Nat.le_of_ble_eq_true rfl) rfl rfl rfl rfl rfl (Nat.le_of_ble_eq_true rfl) ?_
  refine G_aload_n (q := 9) cx dX8_putBack_8 rfl rfl ?_
  refine G_aload_n (q := 10) cx dX8_putBack_9 rfl rfl ?_
  refine G_geti (q := 13) cx dX8_putBack_10 rfl cf_8 fl_RX8_102 (Nat.le_of_ble_eq_true rfl) rfl (Nat.le_of_ble_eq_true rfl) ?_
  refine G_puti (q := 16) cx dX8_putBack_13 rfl cf_8 fl_RX8_16 (Nat.le_of_ble_eq_true rfl) rfl rfl rfl rfl rfl (Nat.le_of_ble_eq_true rfl) ?_
  refine G_aload_n (q := 17) cx dX8_putBack_16 rfl rfl ?_
  refine G_aload_n (q := 18) cx dX8_putBack_17 rfl rfl ?_
  refine G_geti (q := 21) cx dX8_putBack_18 rfl cf_8 fl_RX8_105 (Nat.le_of_ble_eq_true rfl) rfl (Nat.le_of_ble_eq_true rfl) ?_
  refine G_puti (q := 24) cx dX8_putBack_21 rfl cf_8 fl_RX8_19 (Nat.le_of_ble_eq_true rfl) rfl rfl rfl rfl rfl (Nat.le_of_ble_eq_true rfl) ?_
  exact G_vret cx rfl dX8_putBack_24 trivial
def L_X8_upOf_6 (a1 : Int32) (a2 : Int32) (K_5 : Int32 → St → Option (Int32 × St)) : Nat → Int32 → St → Option (Int32 × St)
  | 0, _, _ => none
  | n + 1, x3_5, S_5 =>
    if a2 ≤ x3_5 then (K_5 x3_5 S_5)
    else (bnd (F_X8_goMinute S_5 a1) (fun r11 S12 =>
    L_X8_upOf_6 a1 a2 K_5 n (x3_5 + 1) S12))
def F_X8_upOf (S : St) (a1 : Int32) (a2 : Int32) : Option (Int32 × St) :=
  bnd (F_X8_save S) (fun r1 S2 =>
  L_X8_upOf_6 a1 a2 
  (fun y3_5 T_5 => bnd (F_X8_putBack T_5) (fun r6 S7 =>
  some (gI T_5 8 0 3, S7))) 1000 (0 : Int32) S2)
set_option maxRecDepth 10000 in
theorem c_X8_upOf (l : Launch) {D : va_G} {cy : Nat → ClassId} {ad : Nat → Nat → Nat} (hJ : wJ ad nM) (S : St) (a1 : Int32) (a2 : Int32) : CT l yX8_upOf cX8_upOf 4 (some .int) 5 D cy ad nM toI okT [.ref (ad 8 0), .int a1, .int a2] S (F_X8_upOf S a1 a2) := by
  refine CT.of RX8 (by decide) rfl hJ (Nat.le_of_ble_eq_true rfl) rfl ?_
  intro p e s m below meth c cx
  unfold F_X8_upOf
  refine G_aload_n (q := 1) cx dX8_upOf_0 rfl rfl ?_
  refine G_callV (q := 4) (d' := 0) (f := 8) (i := 0) (As := []) (rest := []) (stk := fun _ => []) cx dX8_upOf_1 rfl cf_8 (Nat.le_of_ble_eq_true rfl) ml_RX8_332 rfl rfl (Nat.le_of_ble_eq_true rfl) (Nat.le_of_ble_eq_true rfl) (Nat.le_of_ble_eq_true rfl) (c_X8_save l hJ  _) (fun _ => rfl) (fun r1 S2 h3 o4 => ?_)
  refine G_iconst (q := 5) (v := (0 : Int32)) cx dX8_upOf_4 rfl (by decide) ?_
  refine G_istore_n (q := 6) (ls' := [(3, .int (0 : Int32)), (0, .ref (ad 8 0)), (1, .int a1), (2, .int a2)]) cx dX8_upOf_5 rfl rfl (Nat.le_of_ble_eq_true rfl) rfl ?_
  have lp_5 : ∀ (K_5 : Int32 → St → Option (Int32 × St)) (hK_5 : ∀ (y3_5 : Int32) (T_5 : St), TG p l e 5 s m ([.ref (ad 8 0), .int a1, .int a2] : List Value).toArray below meth c D cy ad nM toI okT T_5 22 [(3, .int y3_5), (0, .ref (ad 8 0)), (1, .int a1), (2, .int a2)] [] (K_5 y3_5 T_5)), ∀ (n_5 : Nat) (x3_5 : Int32) (S_5 : St), TG p l e 5 s m ([.ref (ad 8 0), .int a1, .int a2] : List Value).toArray below meth c D cy ad nM toI okT S_5 6 [(3, .int x3_5), (0, .ref (ad 8 0)), (1, .int a1), (2, .int a2)] [] (L_X8_upOf_6 a1 a2 K_5 n_5 x3_5 S_5) := by
    intro K_5 hK_5 n_5
    induction n_5 with
    | zero => intros; exact G_none
    | succ n_5 ih_5 =>
      intro x3_5 S_5
      rw [L_X8_upOf_6.eq_2]
      refine G_iload_n (q := 7) cx dX8_upOf_6 rfl rfl ?_
      refine G_iload_n (q := 8) cx dX8_upOf_7 rfl rfl ?_
      refine G_icmp_ge (q := 11) (t := 22) cx dX8_upOf_8 rfl (by decide) (fun c10 => ?_) (fun c10 => ?_)
      · exact G_loc [0, 1, 2, 3] rfl (hK_5 x3_5 S_5)
      refine G_aload_n (q := 12) cx dX8_upOf_11 rfl rfl ?_
      refine G_iload_n (q := 13) cx dX8_upOf_12 rfl rfl ?_
      refine G_callV (q := 16) (d' := 4) (f := 8) (i := 0) (As := [.int a1]) (rest := []) (stk := fun _ => []) cx dX8_upOf_13 rfl cf_8 (Nat.le_of_ble_eq_true rfl) ml_RX8_323 rfl rfl (Nat.le_of_ble_eq_true rfl) (Nat.le_of_ble_eq_true rfl) (Nat.le_of_ble_eq_true rfl) (c_X8_goMinute l hJ  _ a1) (fun _ => rfl) (fun r11 S12 h13 o14 => ?_)
      refine G_iinc (q := 19) (j := 0) (v := x3_5 + 1) (ls' := [(3, .int (x3_5 + 1)), (0, .ref (ad 8 0)), (1, .int a1), (2, .int a2)]) cx dX8_upOf_16 rfl rfl rfl (Nat.le_of_ble_eq_true rfl) rfl ?_
      refine G_goto (t := 6) cx dX8_upOf_19 (by decide) ?_
      exact G_loc [0, 1, 2, 3] rfl (ih_5 (x3_5 + 1) S12)
  refine G_loc [0, 1, 2, 3] rfl (lp_5 _ (fun y3_5 T_5 => ?_) 1000 (0 : Int32) S2)
  refine G_aload_n (q := 23) cx dX8_upOf_22 rfl rfl ?_
  refine G_geti (q := 26) cx dX8_upOf_23 rfl cf_8 fl_RX8_19 (Nat.le_of_ble_eq_true rfl) rfl (Nat.le_of_ble_eq_true rfl) ?_
  refine G_istore_n (q := 27) (ls' := [(3, .int (gI T_5 8 0 3)), (0, .ref (ad 8 0)), (1, .int a1), (2, .int a2)]) cx dX8_upOf_26 rfl rfl (Nat.le_of_ble_eq_true rfl) rfl ?_
  refine G_aload_n (q := 28) cx dX8_upOf_27 rfl rfl ?_
  refine G_callV (q := 31) (d' := 0) (f := 8) (i := 0) (As := []) (rest := []) (stk := fun _ => []) cx dX8_upOf_28 rfl cf_8 (Nat.le_of_ble_eq_true rfl) ml_RX8_335 rfl rfl (Nat.le_of_ble_eq_true rfl) (Nat.le_of_ble_eq_true rfl) (Nat.le_of_ble_eq_true rfl) (c_X8_putBack l hJ  _) (fun _ => rfl) (fun r6 S7 h8 o9 => ?_)
  refine G_iload_n (q := 32) cx dX8_upOf_31 rfl rfl ?_
  exact G_iret cx rfl dX8_upOf_32 trivial
def F_X8_up (S : St) (a1 : Int32) (a2 : Int32) : Option (Int32 × St) :=
  bnd (F_X8_isLift S a1) (fun r1 S2 =>
  if r1 = 0 then (some ((-1 : Int32), S2))
  else (bnd (F_X8_isTime S2 a2) (fun r6 S7 =>
  if r6 = 0 then (some ((-2 : Int32), S7))
  else (bnd (F_X8_upOf S7 a1 a2) (fun r11 S12 =>
  some (r11, S12))))))
set_option maxRecDepth 10000 in
theorem c_X8_up (l : Launch) {D : va_G} {cy : Nat → ClassId} {ad : Nat → Nat → Nat} (hJ : wJ ad nM) (S : St) (a1 : Int32) (a2 : Int32) : CT l yX8_up cX8_up 3 (some .int) 6 D cy ad nM toI okT [.ref (ad 8 0), .int a1, .int a2] S (F_X8_up S a1 a2) := by
  refine CT.of RX8 (by decide) rfl hJ (Nat.le_of_ble_eq_true rfl) rfl ?_
  intro p e s m below meth c cx
  unfold F_X8_up
  refine G_aload_n (q := 1) cx dX8_up_0 rfl rfl ?_
  refine G_iload_n (q := 2) cx dX8_up_1 rfl rfl ?_
  refine G_callV (q := 5) (d' := 1) (f := 8) (i := 0) (As := [.int a1]) (rest := []) (stk := fun r1 => [.int r1]) cx dX8_up_2 rfl cf_8 (Nat.le_of_ble_eq_true rfl) ml_RX8_235 rfl rfl (Nat.le_of_ble_eq_true rfl) (Nat.le_of_ble_eq_true rfl) (Nat.le_of_ble_eq_true rfl) (c_X8_isLift l hJ  _ a1) (fun _ => rfl) (fun r1 S2 h3 o4 => ?_)
  refine G_if_ne (q := 8) (t := 10) cx dX8_up_5 rfl (by decide) (fun c5 => ?_) (fun c5 => ?_)
  · refine G_aload_n (q := 11) cx dX8_up_10 rfl rfl ?_
    refine G_iload_n (q := 12) cx dX8_up_11 rfl rfl ?_
    refine G_callV (q := 15) (d' := 1) (f := 8) (i := 0) (As := [.int a2]) (rest := []) (stk := fun r6 => [.int r6]) cx dX8_up_12 rfl cf_8 (Nat.le_of_ble_eq_true rfl) ml_RX8_320 rfl rfl (Nat.le_of_ble_eq_true rfl) (Nat.le_of_ble_eq_true rfl) (Nat.le_of_ble_eq_true rfl) (c_X8_isTime l hJ  _ a2) (fun _ => rfl) (fun r6 S7 h8 o9 => ?_)
    refine G_if_eq (q := 18) (t := 27) cx dX8_up_15 rfl (by decide) (fun c10 => ?_) (fun c10 => ?_)
    · refine G_bipush (q := 29) (v := (-2 : Int32)) cx dX8_up_27 rfl (by decide) ?_
      exact G_iret cx rfl dX8_up_29 trivial
    refine G_aload_n (q := 19) cx dX8_up_18 rfl rfl ?_
    refine G_iload_n (q := 20) cx dX8_up_19 rfl rfl ?_
    refine G_iload_n (q := 21) cx dX8_up_20 rfl rfl ?_
    refine G_callV (q := 24) (d' := 5) (f := 8) (i := 0) (As := [.int a1, .int a2]) (rest := []) (stk := fun r11 => [.int r11]) cx dX8_up_21 rfl cf_8 (Nat.le_of_ble_eq_true rfl) ml_RX8_338 rfl rfl (Nat.le_of_ble_eq_true rfl) (Nat.le_of_ble_eq_true rfl) (Nat.le_of_ble_eq_true rfl) (c_X8_upOf l hJ  _ a1 a2) (fun _ => rfl) (fun r11 S12 h13 o14 => ?_)
    refine G_goto (t := 29) cx dX8_up_24 (by decide) ?_
    exact G_iret cx rfl dX8_up_29 trivial
  · refine G_iconst (q := 9) (v := (-1 : Int32)) cx dX8_up_8 rfl (by decide) ?_
    exact G_iret cx rfl dX8_up_9 trivial
def L_X8_top_35 (a1 : Int32) (K_15 : Int32 → Int32 → Int32 → St → Option (Int32 × St)) : Nat → Int32 → Int32 → Int32 → St → Option (Int32 × St)
  | 0, _, _, _, _ => none
  | n + 1, x3_15, x4_15, x5_15, S_15 =>
    if (61 : Int32) ≤ x5_15 then (K_15 x3_15 x4_15 x5_15 S_15)
    else (bnd (F_X8_goMinute S_15 a1) (fun r22 S23 =>
    if x3_15 < (gI S23 8 0 3) then (L_X8_top_35 a1 K_15 n (gI S23 8 0 3) x5_15 (x5_15 + 1) S23)
    else (L_X8_top_35 a1 K_15 n x3_15 x4_15 (x5_15 + 1) S23)))
def F_X8_top (S : St) (a1 : Int32) (a2 : Int32) : Option (Int32 × St) :=
  bnd (F_X8_isLift S a1) (fun r1 S2 =>
  if r1 = 0 then (some ((-1 : Int32), S2))
  else (bnd (F_X8_in S2 a2 (0 : Int32) (1 : Int32)) (fun r6 S7 =>
  if r6 = 0 then (some ((-1 : Int32), S7))
  else (bnd (F_X8_save S7) (fun r11 S12 =>
  L_X8_top_35 a1 
  (fun y3_15 y4_15 y5_15 T_15 => bnd (F_X8_putBack T_15) (fun r16 S17 =>
  if a2 = 0 then (some (y3_15, S17))
  else (some (y4_15, S17)))) 1000 (gI S12 8 0 3) (0 : Int32) (1 : Int32) S12)))))
set_option maxRecDepth 10000 in
theorem c_X8_top (l : Launch) {D : va_G} {cy : Nat → ClassId} {ad : Nat → Nat → Nat} (hJ : wJ ad nM) (S : St) (a1 : Int32) (a2 : Int32) : CT l yX8_top cX8_top 6 (some .int) 5 D cy ad nM toI okT [.ref (ad 8 0), .int a1, .int a2] S (F_X8_top S a1 a2) := by
  refine CT.of RX8 (by decide) rfl hJ (Nat.le_of_ble_eq_true rfl) rfl ?_
  intro p e s m below meth c cx
  unfold F_X8_top
  refine G_aload_n (q := 1) cx dX8_top_0 rfl rfl ?_
  refine G_iload_n (q := 2) cx dX8_top_1 rfl rfl ?_
  refine G_callV (q := 5) (d' := 1) (f := 8) (i := 0) (As := [.int a1]) (rest := []) (stk := fun r1 => [.int r1]) cx dX8_top_2 rfl cf_8 (Nat.le_of_ble_eq_true rfl) ml_RX8_235 rfl rfl (Nat.le_of_ble_eq_true rfl) (Nat.le_of_ble_eq_true rfl) (Nat.le_of_ble_eq_true rfl) (c_X8_isLift l hJ  _ a1) (fun _ => rfl) (fun r1 S2 h3 o4 => ?_)
  refine G_if_eq (q := 8) (t := 18) cx dX8_top_5 rfl (by decide) (fun c5 => ?_) (fun c5 => ?_)
  · refine G_iconst (q := 19) (v := (-1 : Int32)) cx dX8_top_18 rfl (by decide) ?_
    exact G_iret cx rfl dX8_top_19 trivial
  refine G_aload_n (q := 9) cx dX8_top_8 rfl rfl ?_
  refine G_iload_n (q := 10) cx dX8_top_9 rfl rfl ?_
  refine G_iconst (q := 11) (v := (0 : Int32)) cx dX8_top_10 rfl (by decide) ?_
  refine G_iconst (q := 12) (v := (1 : Int32)) cx dX8_top_11 rfl (by decide) ?_
  refine G_callV (q := 15) (d' := 0) (f := 8) (i := 0) (As := [.int a2, .int (0 : Int32), .int (1 : Int32)]) (rest := []) (stk := fun r6 => [.int r6]) cx dX8_top_12 rfl cf_8 (Nat.le_of_ble_eq_true rfl) ml_RX8_227 rfl rfl (Nat.le_of_ble_eq_true rfl) (Nat.le_of_ble_eq_true rfl) (Nat.le_of_ble_eq_true rfl) (c_X8_in l hJ  _ a2 (0 : Int32) (1 : Int32)) (fun _ => rfl) (fun r6 S7 h8 o9 => ?_)
  refine G_if_ne (q := 18) (t := 20) cx dX8_top_15 rfl (by decide) (fun c10 => ?_) (fun c10 => ?_)
  · refine G_aload_n (q := 21) cx dX8_top_20 rfl rfl ?_
    refine G_callV (q := 24) (d' := 0) (f := 8) (i := 0) (As := []) (rest := []) (stk := fun _ => []) cx dX8_top_21 rfl cf_8 (Nat.le_of_ble_eq_true rfl) ml_RX8_332 rfl rfl (Nat.le_of_ble_eq_true rfl) (Nat.le_of_ble_eq_true rfl) (Nat.le_of_ble_eq_true rfl) (c_X8_save l hJ  _) (fun _ => rfl) (fun r11 S12 h13 o14 => ?_)
    refine G_aload_n (q := 25) cx dX8_top_24 rfl rfl ?_
    refine G_geti (q := 28) cx dX8_top_25 rfl cf_8 fl_RX8_19 (Nat.le_of_ble_eq_true rfl) rfl (Nat.le_of_ble_eq_true rfl) ?_
    refine G_istore_n (q := 29) (ls' := [(3, .int (gI S12 8 0 3)), (0, .ref (ad 8 0)), (1, .int a1), (2, .int a2)]) cx dX8_top_28 rfl rfl (Nat.le_of_ble_eq_true rfl) rfl ?_
    refine G_iconst (q := 30) (v := (0 : Int32)) cx dX8_top_29 rfl (by decide) ?_
    refine G_istore (q := 32) (ls' := [(4, .int (0 : Int32)), (3, .int (gI S12 8 0 3)), (0, .ref (ad 8 0)), (1, .int a1), (2, .int a2)]) cx dX8_top_30 rfl (Nat.le_of_ble_eq_true rfl) rfl ?_
    refine G_iconst (q := 33) (v := (1 : Int32)) cx dX8_top_32 rfl (by decide) ?_
    refine G_istore (q := 35) (ls' := [(5, .int (1 : Int32)), (4, .int (0 : Int32)), (3, .int (gI S12 8 0 3)), (0, .ref (ad 8 0)), (1, .int a1), (2, .int a2)]) cx dX8_top_33 rfl (Nat.le_of_ble_eq_true rfl) rfl ?_
    have lp_15 : ∀ (K_15 : Int32 → Int32 → Int32 → St → Option (Int32 × St)) (hK_15 : ∀ (y3_15 : Int32) (y4_15 : Int32) (y5_15 : Int32) (T_15 : St), TG p l e 5 s m ([.ref (ad 8 0), .int a1, .int a2] : List Value).toArray below meth c D cy ad nM toI okT T_15 73 [(3, .int y3_15), (4, .int y4_15), (5, .int y5_15), (0, .ref (ad 8 0)), (1, .int a1), (2, .int a2)] [] (K_15 y3_15 y4_15 y5_15 T_15)), ∀ (n_15 : Nat) (x3_15 : Int32) (x4_15 : Int32) (x5_15 : Int32) (S_15 : St), TG p l e 5 s m ([.ref (ad 8 0), .int a1, .int a2] : List Value).toArray below meth c D cy ad nM toI okT S_15 35 [(3, .int x3_15), (4, .int x4_15), (5, .int x5_15), (0, .ref (ad 8 0)), (1, .int a1), (2, .int a2)] [] (L_X8_top_35 a1 K_15 n_15 x3_15 x4_15 x5_15 S_15) := by
      intro K_15 hK_15 n_15
      induction n_15 with
      | zero => intros; exact G_none
      | succ n_15 ih_15 =>
        intro x3_15 x4_15 x5_15 S_15
        rw [L_X8_top_35.eq_2]
        refine G_iload (q := 37) cx dX8_top_35 rfl rfl ?_
        refine G_bipush (q := 39) (v := (61 : Int32)) cx dX8_top_37 rfl (by decide) ?_
        refine G_icmp_ge (q := 42) (t := 73) cx dX8_top_39 rfl (by decide) (fun c21 => ?_) (fun c21 => ?_)
        · exact G_loc [0, 1, 2, 3, 4, 5] rfl (hK_15 x3_15 x4_15 x5_15 S_15)
        refine G_aload_n (q := 43) cx dX8_top_42 rfl rfl ?_
        refine G_iload_n (q := 44) cx dX8_top_43 rfl rfl ?_
        refine G_callV (q := 47) (d' := 4) (f := 8) (i := 0) (As := [.int a1]) (rest := []) (stk := fun _ => []) cx dX8_top_44 rfl cf_8 (Nat.le_of_ble_eq_true rfl) ml_RX8_323 rfl rfl (Nat.le_of_ble_eq_true rfl) (Nat.le_of_ble_eq_true rfl) (Nat.le_of_ble_eq_true rfl) (c_X8_goMinute l hJ  _ a1) (fun _ => rfl) (fun r22 S23 h24 o25 => ?_)
        refine G_aload_n (q := 48) cx dX8_top_47 rfl rfl ?_
        refine G_geti (q := 51) cx dX8_top_48 rfl cf_8 fl_RX8_19 (Nat.le_of_ble_eq_true rfl) rfl (Nat.le_of_ble_eq_true rfl) ?_
        refine G_iload_n (q := 52) cx dX8_top_51 rfl rfl ?_
        refine G_icmp_gt (q := 55) (t := 58) cx dX8_top_52 rfl (by decide) (fun c26 => ?_) (fun c26 => ?_)
        · refine G_aload_n (q := 59) cx dX8_top_58 rfl rfl ?_
          refine G_geti (q := 62) cx dX8_top_59 rfl cf_8 fl_RX8_19 (Nat.le_of_ble_eq_true rfl) rfl (Nat.le_of_ble_eq_true rfl) ?_
          refine G_istore_n (q := 63) (ls' := [(3, .int (gI S23 8 0 3)), (4, .int x4_15), (5, .int x5_15), (0, .ref (ad 8 0)), (1, .int a1), (2, .int a2)]) cx dX8_top_62 rfl rfl (Nat.le_of_ble_eq_true rfl) rfl ?_
          refine G_iload (q := 65) cx dX8_top_63 rfl rfl ?_
          refine G_istore (q := 67) (ls' := [(4, .int x5_15), (3, .int (gI S23 8 0 3)), (5, .int x5_15), (0, .ref (ad 8 0)), (1, .int a1), (2, .int a2)]) cx dX8_top_65 rfl (Nat.le_of_ble_eq_true rfl) rfl ?_
          refine G_iinc (q := 70) (j := 2) (v := x5_15 + 1) (ls' := [(5, .int (x5_15 + 1)), (4, .int x5_15), (3, .int (gI S23 8 0 3)), (0, .ref (ad 8 0)), (1, .int a1), (2, .int a2)]) cx dX8_top_67 rfl rfl rfl (Nat.le_of_ble_eq_true rfl) rfl ?_
          refine G_goto (t := 35) cx dX8_top_70 (by decide) ?_
          exact G_loc [2, 1, 0, 3, 4, 5] rfl (ih_15 (gI S23 8 0 3) x5_15 (x5_15 + 1) S23)
        refine G_goto (t := 67) cx dX8_top_55 (by decide) ?_
        refine G_iinc (q := 70) (j := 2) (v := x5_15 + 1) (ls' := [(5, .int (x5_15 + 1)), (3, .int x3_15), (4, .int x4_15), (0, .ref (ad 8 0)), (1, .int a1), (2, .int a2)]) cx dX8_top_67 rfl rfl rfl (Nat.le_of_ble_eq_true rfl) rfl ?_
        refine G_goto (t := 35) cx dX8_top_70 (by decide) ?_
        exact G_loc [1, 2, 0, 3, 4, 5] rfl (ih_15 x3_15 x4_15 (x5_15 + 1) S23)
    refine G_loc [2, 1, 0, 3, 4, 5] rfl (lp_15 _ (fun y3_15 y4_15 y5_15 T_15 => ?_) 1000 (gI S12 8 0 3) (0 : Int32) (1 : Int32) S12)
    refine G_aload_n (q := 74) cx dX8_top_73 rfl rfl ?_
    refine G_callV (q := 77) (d' := 0) (f := 8) (i := 0) (As := []) (rest := []) (stk := fun _ => []) cx dX8_top_74 rfl cf_8 (Nat.le_of_ble_eq_true rfl) ml_RX8_335 rfl rfl (Nat.le_of_ble_eq_true rfl) (Nat.le_of_ble_eq_true rfl) (Nat.le_of_ble_eq_true rfl) (c_X8_putBack l hJ  _) (fun _ => rfl) (fun r16 S17 h18 o19 => ?_)
    refine G_iload_n (q := 78) cx dX8_top_77 rfl rfl ?_
    refine G_if_ne (q := 81) (t := 85) cx dX8_top_78 rfl (by decide) (fun c20 => ?_) (fun c20 => ?_)
    · refine G_iload (q := 87) cx dX8_top_85 rfl rfl ?_
      exact G_iret cx rfl dX8_top_87 trivial
    · refine G_iload_n (q := 82) cx dX8_top_81 rfl rfl ?_
      refine G_goto (t := 87) cx dX8_top_82 (by decide) ?_
      exact G_iret cx rfl dX8_top_87 trivial
  · refine G_iconst (q := 19) (v := (-1 : Int32)) cx dX8_top_18 rfl (by decide) ?_
    exact G_iret cx rfl dX8_top_19 trivial
def F_X8_arrives (S : St) (a1 : Int32) (a2 : Int32) : Option (Int32 × St) :=
  bnd (F_X8_isMile S a1) (fun r1 S2 =>
  if r1 = 0 then (some ((-2 : Int32), S2))
  else (bnd (F_X8_isPace S2 a2) (fun r6 S7 =>
  if r6 = 0 then (some ((-2 : Int32), S7))
  else (bnd (F_X8_falls S7 (gI S7 8 0 2) a1 a2) (fun r11 S12 =>
  if 0 ≤ ((gI S7 8 0 3) - r11) then (some ((gI S7 8 0 3) - r11, S12))
  else (some ((-5 : Int32), S12)))))))
set_option maxRecDepth 10000 in
theorem c_X8_arrives (l : Launch) {D : va_G} {cy : Nat → ClassId} {ad : Nat → Nat → Nat} (hJ : wJ ad nM) (S : St) (a1 : Int32) (a2 : Int32) : CT l yX8_arrives cX8_arrives 4 (some .int) 2 D cy ad nM toI okT [.ref (ad 8 0), .int a1, .int a2] S (F_X8_arrives S a1 a2) := by
  refine CT.of RX8 (by decide) rfl hJ (Nat.le_of_ble_eq_true rfl) rfl ?_
  intro p e s m below meth c cx
  unfold F_X8_arrives
  refine G_aload_n (q := 1) cx dX8_arrives_0 rfl rfl ?_
  refine G_iload_n (q := 2) cx dX8_arrives_1 rfl rfl ?_
  refine G_callV (q := 5) (d' := 1) (f := 8) (i := 0) (As := [.int a1]) (rest := []) (stk := fun r1 => [.int r1]) cx dX8_arrives_2 rfl cf_8 (Nat.le_of_ble_eq_true rfl) ml_RX8_231 rfl rfl (Nat.le_of_ble_eq_true rfl) (Nat.le_of_ble_eq_true rfl) (Nat.le_of_ble_eq_true rfl) (c_X8_isMile l hJ  _ a1) (fun _ => rfl) (fun r1 S2 h3 o4 => ?_)
  refine G_if_eq (q := 8) (t := 16) cx dX8_arrives_5 rfl (by decide) (fun c5 => ?_) (fun c5 => ?_)
  · refine G_bipush (q := 18) (v := (-2 : Int32)) cx dX8_arrives_16 rfl (by decide) ?_
    exact G_iret cx rfl dX8_arrives_18 trivial
  refine G_aload_n (q := 9) cx dX8_arrives_8 rfl rfl ?_
  refine G_iload_n (q := 10) cx dX8_arrives_9 rfl rfl ?_
  refine G_callV (q := 13) (d' := 1) (f := 8) (i := 0) (As := [.int a2]) (rest := []) (stk := fun r6 => [.int r6]) cx dX8_arrives_10 rfl cf_8 (Nat.le_of_ble_eq_true rfl) ml_RX8_326 rfl rfl (Nat.le_of_ble_eq_true rfl) (Nat.le_of_ble_eq_true rfl) (Nat.le_of_ble_eq_true rfl) (c_X8_isPace l hJ  _ a2) (fun _ => rfl) (fun r6 S7 h8 o9 => ?_)
  refine G_if_ne (q := 16) (t := 19) cx dX8_arrives_13 rfl (by decide) (fun c10 => ?_) (fun c10 => ?_)
  · refine G_aload_n (q := 20) cx dX8_arrives_19 rfl rfl ?_
    refine G_geti (q := 23) cx dX8_arrives_20 rfl cf_8 fl_RX8_19 (Nat.le_of_ble_eq_true rfl) rfl (Nat.le_of_ble_eq_true rfl) ?_
    refine G_aload_n (q := 24) cx dX8_arrives_23 rfl rfl ?_
    refine G_aload_n (q := 25) cx dX8_arrives_24 rfl rfl ?_
    refine G_geti (q := 28) cx dX8_arrives_25 rfl cf_8 fl_RX8_16 (Nat.le_of_ble_eq_true rfl) rfl (Nat.le_of_ble_eq_true rfl) ?_
    refine G_iload_n (q := 29) cx dX8_arrives_28 rfl rfl ?_
    refine G_iload_n (q := 30) cx dX8_arrives_29 rfl rfl ?_
    refine G_callV (q := 33) (d' := 1) (f := 8) (i := 0) (As := [.int (gI S7 8 0 2), .int a1, .int a2]) (rest := [.int (gI S7 8 0 3)]) (stk := fun r11 => [.int r11, .int (gI S7 8 0 3)]) cx dX8_arrives_30 rfl cf_8 (Nat.le_of_ble_eq_true rfl) ml_RX8_316 rfl rfl (Nat.le_of_ble_eq_true rfl) (Nat.le_of_ble_eq_true rfl) (Nat.le_of_ble_eq_true rfl) (c_X8_falls l hJ  _ (gI S7 8 0 2) a1 a2) (fun _ => rfl) (fun r11 S12 h13 o14 => ?_)
    refine G_isub (q := 34) cx dX8_arrives_33 rfl ?_
    refine G_istore_n (q := 35) (ls' := [(3, .int ((gI S7 8 0 3) - r11)), (0, .ref (ad 8 0)), (1, .int a1), (2, .int a2)]) cx dX8_arrives_34 rfl rfl (Nat.le_of_ble_eq_true rfl) rfl ?_
    refine G_iload_n (q := 36) cx dX8_arrives_35 rfl rfl ?_
    refine G_if_ge (q := 39) (t := 44) cx dX8_arrives_36 rfl (by decide) (fun c15 => ?_) (fun c15 => ?_)
    · refine G_iload_n (q := 45) cx dX8_arrives_44 rfl rfl ?_
      exact G_iret cx rfl dX8_arrives_45 trivial
    · refine G_bipush (q := 41) (v := (-5 : Int32)) cx dX8_arrives_39 rfl (by decide) ?_
      refine G_goto (t := 45) cx dX8_arrives_41 (by decide) ?_
      exact G_iret cx rfl dX8_arrives_45 trivial
  · refine G_bipush (q := 18) (v := (-2 : Int32)) cx dX8_arrives_16 rfl (by decide) ?_
    exact G_iret cx rfl dX8_arrives_18 trivial
def F_X8_outed (S : St) (a1 : Int32) (a2 : Int32) : Option (Int32 × St) :=
  bnd (F_X8_isMile S a1) (fun r1 S2 =>
  if r1 = 0 then (some ((-2 : Int32), S2))
  else (bnd (F_X8_isPace S2 a2) (fun r6 S7 =>
  if r6 = 0 then (some ((-2 : Int32), S7))
  else (if ((5 : Int32) + a2) = 0 then none else (bnd (F_X8_apart S7 (gI S7 8 0 2) a1) (fun r12 S13 =>
  if r12 ≤ ((gI S7 8 0 3) / ((5 : Int32) + a2)) then (bnd (F_X8_apart S13 (gI S13 8 0 2) a1) (fun r17 S18 =>
  some (r17, S18)))
  else (some ((gI S7 8 0 3) / ((5 : Int32) + a2), S13))))))))
set_option maxRecDepth 10000 in
theorem c_X8_outed (l : Launch) {D : va_G} {cy : Nat → ClassId} {ad : Nat → Nat → Nat} (hJ : wJ ad nM) (S : St) (a1 : Int32) (a2 : Int32) : CT l yX8_outed cX8_outed 4 (some .int) 2 D cy ad nM toI okT [.ref (ad 8 0), .int a1, .int a2] S (F_X8_outed S a1 a2) := by
  refine CT.of RX8 (by decide) rfl hJ (Nat.le_of_ble_eq_true rfl) rfl ?_
  intro p e s m below meth c cx
  unfold F_X8_outed
  refine G_aload_n (q := 1) cx dX8_outed_0 rfl rfl ?_
  refine G_iload_n (q := 2) cx dX8_outed_1 rfl rfl ?_
  refine G_callV (q := 5) (d' := 1) (f := 8) (i := 0) (As := [.int a1]) (rest := []) (stk := fun r1 => [.int r1]) cx dX8_outed_2 rfl cf_8 (Nat.le_of_ble_eq_true rfl) ml_RX8_231 rfl rfl (Nat.le_of_ble_eq_true rfl) (Nat.le_of_ble_eq_true rfl) (Nat.le_of_ble_eq_true rfl) (c_X8_isMile l hJ  _ a1) (fun _ => rfl) (fun r1 S2 h3 o4 => ?_)
  refine G_if_eq (q := 8) (t := 16) cx dX8_outed_5 rfl (by decide) (fun c5 => ?_) (fun c5 => ?_)
  · refine G_bipush (q := 18) (v := (-2 : Int32)) cx dX8_outed_16 rfl (by decide) ?_
    exact G_iret cx rfl dX8_outed_18 trivial
  refine G_aload_n (q := 9) cx dX8_outed_8 rfl rfl ?_
  refine G_iload_n (q := 10) cx dX8_outed_9 rfl rfl ?_
  refine G_callV (q := 13) (d' := 1) (f := 8) (i := 0) (As := [.int a2]) (rest := []) (stk := fun r6 => [.int r6]) cx dX8_outed_10 rfl cf_8 (Nat.le_of_ble_eq_true rfl) ml_RX8_326 rfl rfl (Nat.le_of_ble_eq_true rfl) (Nat.le_of_ble_eq_true rfl) (Nat.le_of_ble_eq_true rfl) (c_X8_isPace l hJ  _ a2) (fun _ => rfl) (fun r6 S7 h8 o9 => ?_)
  refine G_if_ne (q := 16) (t := 19) cx dX8_outed_13 rfl (by decide) (fun c10 => ?_) (fun c10 => ?_)
  · refine G_aload_n (q := 20) cx dX8_outed_19 rfl rfl ?_
    refine G_geti (q := 23) cx dX8_outed_20 rfl cf_8 fl_RX8_19 (Nat.le_of_ble_eq_true rfl) rfl (Nat.le_of_ble_eq_true rfl) ?_
    refine G_iconst (q := 24) (v := (5 : Int32)) cx dX8_outed_23 rfl (by decide) ?_
    refine G_iload_n (q := 25) cx dX8_outed_24 rfl rfl ?_
    refine G_iadd (q := 26) cx dX8_outed_25 rfl ?_
    refine G_case (fun _ => G_none) (fun g11 => ?_)
    refine G_idiv (q := 27) cx dX8_outed_26 rfl g11 ?_
    refine G_istore_n (q := 28) (ls' := [(3, .int ((gI S7 8 0 3) / ((5 : Int32) + a2))), (0, .ref (ad 8 0)), (1, .int a1), (2, .int a2)]) cx dX8_outed_27 rfl rfl (Nat.le_of_ble_eq_true rfl) rfl ?_
    refine G_iload_n (q := 29) cx dX8_outed_28 rfl rfl ?_
    refine G_aload_n (q := 30) cx dX8_outed_29 rfl rfl ?_
    refine G_aload_n (q := 31) cx dX8_outed_30 rfl rfl ?_
    refine G_geti (q := 34) cx dX8_outed_31 rfl cf_8 fl_RX8_16 (Nat.le_of_ble_eq_true rfl) rfl (Nat.le_of_ble_eq_true rfl) ?_
    refine G_iload_n (q := 35) cx dX8_outed_34 rfl rfl ?_
    refine G_callV (q := 38) (d' := 0) (f := 8) (i := 0) (As := [.int (gI S7 8 0 2), .int a1]) (rest := [.int ((gI S7 8 0 3) / ((5 : Int32) + a2))]) (stk := fun r12 => [.int r12, .int ((gI S7 8 0 3) / ((5 : Int32) + a2))]) cx dX8_outed_35 rfl cf_8 (Nat.le_of_ble_eq_true rfl) ml_RX8_313 rfl rfl (Nat.le_of_ble_eq_true rfl) (Nat.le_of_ble_eq_true rfl) (Nat.le_of_ble_eq_true rfl) (c_X8_apart l hJ  _ (gI S7 8 0 2) a1) (fun _ => rfl) (fun r12 S13 h14 o15 => ?_)
    refine G_icmp_ge (q := 41) (t := 45) cx dX8_outed_38 rfl (by decide) (fun c16 => ?_) (fun c16 => ?_)
    · refine G_aload_n (q := 46) cx dX8_outed_45 rfl rfl ?_
      refine G_aload_n (q := 47) cx dX8_outed_46 rfl rfl ?_
      refine G_geti (q := 50) cx dX8_outed_47 rfl cf_8 fl_RX8_16 (Nat.le_of_ble_eq_true rfl) rfl (Nat.le_of_ble_eq_true rfl) ?_
      refine G_iload_n (q := 51) cx dX8_outed_50 rfl rfl ?_
      refine G_callV (q := 54) (d' := 0) (f := 8) (i := 0) (As := [.int (gI S13 8 0 2), .int a1]) (rest := []) (stk := fun r17 => [.int r17]) cx dX8_outed_51 rfl cf_8 (Nat.le_of_ble_eq_true rfl) ml_RX8_313 rfl rfl (Nat.le_of_ble_eq_true rfl) (Nat.le_of_ble_eq_true rfl) (Nat.le_of_ble_eq_true rfl) (c_X8_apart l hJ  _ (gI S13 8 0 2) a1) (fun _ => rfl) (fun r17 S18 h19 o20 => ?_)
      exact G_iret cx rfl dX8_outed_54 trivial
    · refine G_iload_n (q := 42) cx dX8_outed_41 rfl rfl ?_
      refine G_goto (t := 54) cx dX8_outed_42 (by decide) ?_
      exact G_iret cx rfl dX8_outed_54 trivial
  · refine G_bipush (q := 18) (v := (-2 : Int32)) cx dX8_outed_16 rfl (by decide) ?_
    exact G_iret cx rfl dX8_outed_18 trivial
def F_X8_canReach (S : St) (a1 : Int32) (a2 : Int32) : Option (Int32 × St) :=
  if 0 ≤ a1 ∧ a1.toNatClampNeg < 6 then (bnd (F_X8_falls S (gI S 8 0 2) (gI S 24 0 a1.toNatClampNeg) a2) (fun r3 S4 =>
  if ((gI S 8 0 3) - r3) < 0 then (some ((0 : Int32), S4))
  else (bnd (F_X8_safe S4) (fun r8 S9 =>
  if ((gI S 8 0 3) - r3) < r8 then (some ((0 : Int32), S9))
  else (some ((1 : Int32), S9))))))
  else none
set_option maxRecDepth 10000 in
theorem c_X8_canReach (l : Launch) {D : va_G} {cy : Nat → ClassId} {ad : Nat → Nat → Nat} (hJ : wJ ad nM) (S : St) (a1 : Int32) (a2 : Int32) : CT l yX8_canReach cX8_canReach 4 (some .boolean) 3 D cy ad nM toI okZ [.ref (ad 8 0), .int a1, .int a2] S (F_X8_canReach S a1 a2) := by
  refine CT.of RX8 (by decide) rfl hJ (Nat.le_of_ble_eq_true rfl) rfl ?_
  intro p e s m below meth c cx
  unfold F_X8_canReach
  refine G_aload_n (q := 1) cx dX8_canReach_0 rfl rfl ?_
  refine G_geti (q := 4) cx dX8_canReach_1 rfl cf_8 fl_RX8_19 (Nat.le_of_ble_eq_true rfl) rfl (Nat.le_of_ble_eq_true rfl) ?_
  refine G_aload_n (q := 5) cx dX8_canReach_4 rfl rfl ?_
  refine G_aload_n (q := 6) cx dX8_canReach_5 rfl rfl ?_
  refine G_geti (q := 9) cx dX8_canReach_6 rfl cf_8 fl_RX8_16 (Nat.le_of_ble_eq_true rfl) rfl (Nat.le_of_ble_eq_true rfl) ?_
  refine G_aload_n (q := 10) cx dX8_canReach_9 rfl rfl ?_
  refine G_getr (q := 13) (g := 24) (i' := 0) cx dX8_canReach_10 rfl cf_8 fl_RX8_35 (Nat.le_of_ble_eq_true rfl) rfl rfl (Nat.le_of_ble_eq_true rfl) ?_
  refine G_iload_n (q := 14) cx dX8_canReach_13 rfl rfl ?_
  refine G_iald (q := 15) cx dX8_canReach_14 rfl (by decide) rfl rfl (Nat.le_of_ble_eq_true rfl) (fun g1 g2 => ?_)
  refine G_iload_n (q := 16) cx dX8_canReach_15 rfl rfl ?_
  refine G_callV (q := 19) (d' := 1) (f := 8) (i := 0) (As := [.int (gI S 8 0 2), .int (gI S 24 0 a1.toNatClampNeg), .int a2]) (rest := [.int (gI S 8 0 3)]) (stk := fun r3 => [.int r3, .int (gI S 8 0 3)]) cx dX8_canReach_16 rfl cf_8 (Nat.le_of_ble_eq_true rfl) ml_RX8_316 rfl rfl (Nat.le_of_ble_eq_true rfl) (Nat.le_of_ble_eq_true rfl) (Nat.le_of_ble_eq_true rfl) (c_X8_falls l hJ  _ (gI S 8 0 2) (gI S 24 0 a1.toNatClampNeg) a2) (fun _ => rfl) (fun r3 S4 h5 o6 => ?_)
  refine G_isub (q := 20) cx dX8_canReach_19 rfl ?_
  refine G_istore_n (q := 21) (ls' := [(3, .int ((gI S 8 0 3) - r3)), (0, .ref (ad 8 0)), (1, .int a1), (2, .int a2)]) cx dX8_canReach_20 rfl rfl (Nat.le_of_ble_eq_true rfl) rfl ?_
  refine G_iload_n (q := 22) cx dX8_canReach_21 rfl rfl ?_
  refine G_if_lt (q := 25) (t := 37) cx dX8_canReach_22 rfl (by decide) (fun c7 => ?_) (fun c7 => ?_)
  · refine G_iconst (q := 38) (v := (0 : Int32)) cx dX8_canReach_37 rfl (by decide) ?_
    exact G_zret (ty := .boolean) cx rfl dX8_canReach_38 rfl rfl
  refine G_iload_n (q := 26) cx dX8_canReach_25 rfl rfl ?_
  refine G_aload_n (q := 27) cx dX8_canReach_26 rfl rfl ?_
  refine G_callV (q := 30) (d' := 2) (f := 8) (i := 0) (As := []) (rest := [.int ((gI S 8 0 3) - r3)]) (stk := fun r8 => [.int r8, .int ((gI S 8 0 3) - r3)]) cx dX8_canReach_27 rfl cf_8 (Nat.le_of_ble_eq_true rfl) ml_RX8_310 rfl rfl (Nat.le_of_ble_eq_true rfl) (Nat.le_of_ble_eq_true rfl) (Nat.le_of_ble_eq_true rfl) (c_X8_safe l hJ  _) (fun _ => rfl) (fun r8 S9 h10 o11 => ?_)
  refine G_icmp_lt (q := 33) (t := 37) cx dX8_canReach_30 rfl (by decide) (fun c12 => ?_) (fun c12 => ?_)
  · refine G_iconst (q := 38) (v := (0 : Int32)) cx dX8_canReach_37 rfl (by decide) ?_
    exact G_zret (ty := .boolean) cx rfl dX8_canReach_38 rfl rfl
  · refine G_iconst (q := 34) (v := (1 : Int32)) cx dX8_canReach_33 rfl (by decide) ?_
    refine G_goto (t := 38) cx dX8_canReach_34 (by decide) ?_
    exact G_zret (ty := .boolean) cx rfl dX8_canReach_38 rfl rfl
def L_X8_reach_15 (a1 : Int32) (K_6 : Int32 → Int32 → St → Option (Int32 × St)) : Nat → Int32 → Int32 → St → Option (Int32 × St)
  | 0, _, _, _ => none
  | n + 1, x2_6, x3_6, S_6 =>
    if (gI S_6 8 0 0) ≤ x3_6 then (K_6 x2_6 x3_6 S_6)
    else (bnd (F_X8_canReach S_6 x3_6 a1) (fun r8 S9 =>
    if r8 = 0 then (L_X8_reach_15 a1 K_6 n (x2_6 ||| (0 : Int32)) (x3_6 + 1) S9)
    else (L_X8_reach_15 a1 K_6 n (x2_6 ||| ((1 : Int32) <<< (x3_6 &&& 31))) (x3_6 + 1) S9)))
def F_X8_reach (S : St) (a1 : Int32) : Option (Int32 × St) :=
  bnd (F_X8_isPace S a1) (fun r1 S2 =>
  if r1 = 0 then (some ((-2 : Int32), S2))
  else (L_X8_reach_15 a1 
  (fun y2_6 y3_6 T_6 => some (y2_6, T_6)) 1000 (0 : Int32) (0 : Int32) S2))
set_option maxRecDepth 10000 in
theorem c_X8_reach (l : Launch) {D : va_G} {cy : Nat → ClassId} {ad : Nat → Nat → Nat} (hJ : wJ ad nM) (S : St) (a1 : Int32) : CT l yX8_reach cX8_reach 4 (some .int) 4 D cy ad nM toI okT [.ref (ad 8 0), .int a1] S (F_X8_reach S a1) := by
  refine CT.of RX8 (by decide) rfl hJ (Nat.le_of_ble_eq_true rfl) rfl ?_
  intro p e s m below meth c cx
  unfold F_X8_reach
  refine G_aload_n (q := 1) cx dX8_reach_0 rfl rfl ?_
  refine G_iload_n (q := 2) cx dX8_reach_1 rfl rfl ?_
  refine G_callV (q := 5) (d' := 1) (f := 8) (i := 0) (As := [.int a1]) (rest := []) (stk := fun r1 => [.int r1]) cx dX8_reach_2 rfl cf_8 (Nat.le_of_ble_eq_true rfl) ml_RX8_326 rfl rfl (Nat.le_of_ble_eq_true rfl) (Nat.le_of_ble_eq_true rfl) (Nat.le_of_ble_eq_true rfl) (c_X8_isPace l hJ  _ a1) (fun _ => rfl) (fun r1 S2 h3 o4 => ?_)
  refine G_if_ne (q := 8) (t := 11) cx dX8_reach_5 rfl (by decide) (fun c5 => ?_) (fun c5 => ?_)
  · refine G_iconst (q := 12) (v := (0 : Int32)) cx dX8_reach_11 rfl (by decide) ?_
    refine G_istore_n (q := 13) (ls' := [(2, .int (0 : Int32)), (0, .ref (ad 8 0)), (1, .int a1)]) cx dX8_reach_12 rfl rfl (Nat.le_of_ble_eq_true rfl) rfl ?_
    refine G_iconst (q := 14) (v := (0 : Int32)) cx dX8_reach_13 rfl (by decide) ?_
    refine G_istore_n (q := 15) (ls' := [(3, .int (0 : Int32)), (2, .int (0 : Int32)), (0, .ref (ad 8 0)), (1, .int a1)]) cx dX8_reach_14 rfl rfl (Nat.le_of_ble_eq_true rfl) rfl ?_
    have lp_6 : ∀ (K_6 : Int32 → Int32 → St → Option (Int32 × St)) (hK_6 : ∀ (y2_6 : Int32) (y3_6 : Int32) (T_6 : St), TG p l e 4 s m ([.ref (ad 8 0), .int a1] : List Value).toArray below meth c D cy ad nM toI okT T_6 48 [(2, .int y2_6), (3, .int y3_6), (0, .ref (ad 8 0)), (1, .int a1)] [] (K_6 y2_6 y3_6 T_6)), ∀ (n_6 : Nat) (x2_6 : Int32) (x3_6 : Int32) (S_6 : St), TG p l e 4 s m ([.ref (ad 8 0), .int a1] : List Value).toArray below meth c D cy ad nM toI okT S_6 15 [(2, .int x2_6), (3, .int x3_6), (0, .ref (ad 8 0)), (1, .int a1)] [] (L_X8_reach_15 a1 K_6 n_6 x2_6 x3_6 S_6) := by
      intro K_6 hK_6 n_6
      induction n_6 with
      | zero => intros; exact G_none
      | succ n_6 ih_6 =>
        intro x2_6 x3_6 S_6
        rw [L_X8_reach_15.eq_2]
        refine G_iload_n (q := 16) cx dX8_reach_15 rfl rfl ?_
        refine G_aload_n (q := 17) cx dX8_reach_16 rfl rfl ?_
        refine G_geti (q := 20) cx dX8_reach_17 rfl cf_8 fl_RX8_7 (Nat.le_of_ble_eq_true rfl) rfl (Nat.le_of_ble_eq_true rfl) ?_
        refine G_icmp_ge (q := 23) (t := 48) cx dX8_reach_20 rfl (by decide) (fun c7 => ?_) (fun c7 => ?_)
        · exact G_loc [0, 1, 2, 3] rfl (hK_6 x2_6 x3_6 S_6)
        refine G_iload_n (q := 24) cx dX8_reach_23 rfl rfl ?_
        refine G_aload_n (q := 25) cx dX8_reach_24 rfl rfl ?_
        refine G_iload_n (q := 26) cx dX8_reach_25 rfl rfl ?_
        refine G_iload_n (q := 27) cx dX8_reach_26 rfl rfl ?_
        refine G_callV (q := 30) (d' := 3) (f := 8) (i := 0) (As := [.int x3_6, .int a1]) (rest := [.int x2_6]) (stk := fun r8 => [.int r8, .int x2_6]) cx dX8_reach_27 rfl cf_8 (Nat.le_of_ble_eq_true rfl) ml_RX8_341 rfl rfl (Nat.le_of_ble_eq_true rfl) (Nat.le_of_ble_eq_true rfl) (Nat.le_of_ble_eq_true rfl) (c_X8_canReach l hJ  _ x3_6 a1) (fun _ => rfl) (fun r8 S9 h10 o11 => ?_)
        refine G_if_eq (q := 33) (t := 39) cx dX8_reach_30 rfl (by decide) (fun c12 => ?_) (fun c12 => ?_)
        · refine G_iconst (q := 40) (v := (0 : Int32)) cx dX8_reach_39 rfl (by decide) ?_
          refine G_ior (q := 41) cx dX8_reach_40 rfl ?_
          refine G_istore_n (q := 42) (ls' := [(2, .int (x2_6 ||| (0 : Int32))), (3, .int x3_6), (0, .ref (ad 8 0)), (1, .int a1)]) cx dX8_reach_41 rfl rfl (Nat.le_of_ble_eq_true rfl) rfl ?_
          refine G_iinc (q := 45) (j := 1) (v := x3_6 + 1) (ls' := [(3, .int (x3_6 + 1)), (2, .int (x2_6 ||| (0 : Int32))), (0, .ref (ad 8 0)), (1, .int a1)]) cx dX8_reach_42 rfl rfl rfl (Nat.le_of_ble_eq_true rfl) rfl ?_
          refine G_goto (t := 15) cx dX8_reach_45 (by decide) ?_
          exact G_loc [1, 0, 2, 3] rfl (ih_6 (x2_6 ||| (0 : Int32)) (x3_6 + 1) S9)
        refine G_iconst (q := 34) (v := (1 : Int32)) cx dX8_reach_33 rfl (by decide) ?_
        refine G_iload_n (q := 35) cx dX8_reach_34 rfl rfl ?_
        refine G_ishl (q := 36) cx dX8_reach_35 rfl ?_
        refine G_goto (t := 40) cx dX8_reach_36 (by decide) ?_
        refine G_ior (q := 41) cx dX8_reach_40 rfl ?_
        refine G_istore_n (q := 42) (ls' := [(2, .int (x2_6 ||| ((1 : Int32) <<< (x3_6 &&& 31)))), (3, .int x3_6), (0, .ref (ad 8 0)), (1, .int a1)]) cx dX8_reach_41 rfl rfl (Nat.le_of_ble_eq_true rfl) rfl ?_
        refine G_iinc (q := 45) (j := 1) (v := x3_6 + 1) (ls' := [(3, .int (x3_6 + 1)), (2, .int (x2_6 ||| ((1 : Int32) <<< (x3_6 &&& 31)))), (0, .ref (ad 8 0)), (1, .int a1)]) cx dX8_reach_42 rfl rfl rfl (Nat.le_of_ble_eq_true rfl) rfl ?_
        refine G_goto (t := 15) cx dX8_reach_45 (by decide) ?_
        exact G_loc [1, 0, 2, 3] rfl (ih_6 (x2_6 ||| ((1 : Int32) <<< (x3_6 &&& 31))) (x3_6 + 1) S9)
    refine G_loc [1, 0, 2, 3] rfl (lp_6 _ (fun y2_6 y3_6 T_6 => ?_) 1000 (0 : Int32) (0 : Int32) S2)
    refine G_iload_n (q := 49) cx dX8_reach_48 rfl rfl ?_
    exact G_iret cx rfl dX8_reach_49 trivial
  · refine G_bipush (q := 10) (v := (-2 : Int32)) cx dX8_reach_8 rfl (by decide) ?_
    exact G_iret cx rfl dX8_reach_10 trivial
def L_X8_next_19 (a1 : Int32) (K_6 : Int32 → Int32 → Int32 → St → Option (Int32 × St)) : Nat → Int32 → Int32 → Int32 → St → Option (Int32 × St)
  | 0, _, _, _, _ => none
  | n + 1, x2_6, x3_6, x4_6, S_6 =>
    if (gI S_6 8 0 0) ≤ x4_6 then (K_6 x2_6 x3_6 x4_6 S_6)
    else (bnd (F_X8_canReach S_6 x4_6 a1) (fun r8 S9 =>
    if r8 = 0 then (L_X8_next_19 a1 K_6 n x2_6 x3_6 (x4_6 + 1) S9)
    else (bnd (F_X8_save S9) (fun r13 S14 =>
    if 0 ≤ x4_6 ∧ x4_6.toNatClampNeg < 6 then (bnd (F_X8_goGlide S14 (gI S14 24 0 x4_6.toNatClampNeg) a1) (fun r19 S20 =>
    bnd (F_X8_climb S20 x4_6) (fun r23 S24 =>
    bnd (F_X8_putBack S24) (fun r27 S28 =>
    if x2_6 < 0 then (L_X8_next_19 a1 K_6 n x4_6 r23 (x4_6 + 1) S28)
    else (if x3_6 < r23 then (L_X8_next_19 a1 K_6 n x4_6 r23 (x4_6 + 1) S28)
    else (L_X8_next_19 a1 K_6 n x2_6 x3_6 (x4_6 + 1) S28))))))
    else none))))
def F_X8_next (S : St) (a1 : Int32) : Option (Int32 × St) :=
  bnd (F_X8_isPace S a1) (fun r1 S2 =>
  if r1 = 0 then (some ((-2 : Int32), S2))
  else (L_X8_next_19 a1 
  (fun y2_6 y3_6 y4_6 T_6 => some (y2_6, T_6)) 1000 (-5 : Int32) (0 : Int32) (0 : Int32) S2))
set_option maxRecDepth 10000 in
theorem c_X8_next (l : Launch) {D : va_G} {cy : Nat → ClassId} {ad : Nat → Nat → Nat} (hJ : wJ ad nM) (S : St) (a1 : Int32) : CT l yX8_next cX8_next 7 (some .int) 4 D cy ad nM toI okT [.ref (ad 8 0), .int a1] S (F_X8_next S a1) := by
  refine CT.of RX8 (by decide) rfl hJ (Nat.le_of_ble_eq_true rfl) rfl ?_
  intro p e s m below meth c cx
  unfold F_X8_next
  refine G_aload_n (q := 1) cx dX8_next_0 rfl rfl ?_
  refine G_iload_n (q := 2) cx dX8_next_1 rfl rfl ?_
  refine G_callV (q := 5) (d' := 1) (f := 8) (i := 0) (As := [.int a1]) (rest := []) (stk := fun r1 => [.int r1]) cx dX8_next_2 rfl cf_8 (Nat.le_of_ble_eq_true rfl) ml_RX8_326 rfl rfl (Nat.le_of_ble_eq_true rfl) (Nat.le_of_ble_eq_true rfl) (Nat.le_of_ble_eq_true rfl) (c_X8_isPace l hJ  _ a1) (fun _ => rfl) (fun r1 S2 h3 o4 => ?_)
  refine G_if_ne (q := 8) (t := 11) cx dX8_next_5 rfl (by decide) (fun c5 => ?_) (fun c5 => ?_)
  · refine G_bipush (q := 13) (v := (-5 : Int32)) cx dX8_next_11 rfl (by decide) ?_
    refine G_istore_n (q := 14) (ls' := [(2, .int (-5 : Int32)), (0, .ref (ad 8 0)), (1, .int a1)]) cx dX8_next_13 rfl rfl (Nat.le_of_ble_eq_true rfl) rfl ?_
    refine G_iconst (q := 15) (v := (0 : Int32)) cx dX8_next_14 rfl (by decide) ?_
    refine G_istore_n (q := 16) (ls' := [(3, .int (0 : Int32)), (2, .int (-5 : Int32)), (0, .ref (ad 8 0)), (1, .int a1)]) cx dX8_next_15 rfl rfl (Nat.le_of_ble_eq_true rfl) rfl ?_
    refine G_iconst (q := 17) (v := (0 : Int32)) cx dX8_next_16 rfl (by decide) ?_
    refine G_istore (q := 19) (ls' := [(4, .int (0 : Int32)), (3, .int (0 : Int32)), (2, .int (-5 : Int32)), (0, .ref (ad 8 0)), (1, .int a1)]) cx dX8_next_17 rfl (Nat.le_of_ble_eq_true rfl) rfl ?_
    have lp_6 : ∀ (K_6 : Int32 → Int32 → Int32 → St → Option (Int32 × St)) (hK_6 : ∀ (y2_6 : Int32) (y3_6 : Int32) (y4_6 : Int32) (T_6 : St), TG p l e 4 s m ([.ref (ad 8 0), .int a1] : List Value).toArray below meth c D cy ad nM toI okT T_6 96 [(2, .int y2_6), (3, .int y3_6), (4, .int y4_6), (0, .ref (ad 8 0)), (1, .int a1)] [] (K_6 y2_6 y3_6 y4_6 T_6)), ∀ (n_6 : Nat) (x2_6 : Int32) (x3_6 : Int32) (x4_6 : Int32) (S_6 : St), TG p l e 4 s m ([.ref (ad 8 0), .int a1] : List Value).toArray below meth c D cy ad nM toI okT S_6 19 [(2, .int x2_6), (3, .int x3_6), (4, .int x4_6), (0, .ref (ad 8 0)), (1, .int a1)] [] (L_X8_next_19 a1 K_6 n_6 x2_6 x3_6 x4_6 S_6) := by
      intro K_6 hK_6 n_6
      induction n_6 with
      | zero => intros; exact G_none
      | succ n_6 ih_6 =>
        intro x2_6 x3_6 x4_6 S_6
        rw [L_X8_next_19.eq_2]
        refine G_iload (q := 21) cx dX8_next_19 rfl rfl ?_
        refine G_aload_n (q := 22) cx dX8_next_21 rfl rfl ?_
        refine G_geti (q := 25) cx dX8_next_22 rfl cf_8 fl_RX8_7 (Nat.le_of_ble_eq_true rfl) rfl (Nat.le_of_ble_eq_true rfl) ?_
        refine G_icmp_ge (q := 28) (t := 96) cx dX8_next_25 rfl (by decide) (fun c7 => ?_) (fun c7 => ?_)
        · exact G_loc [0, 1, 2, 3, 4] rfl (hK_6 x2_6 x3_6 x4_6 S_6)
        refine G_aload_n (q := 29) cx dX8_next_28 rfl rfl ?_
        refine G_iload (q := 31) cx dX8_next_29 rfl rfl ?_
        refine G_iload_n (q := 32) cx dX8_next_31 rfl rfl ?_
        refine G_callV (q := 35) (d' := 3) (f := 8) (i := 0) (As := [.int x4_6, .int a1]) (rest := []) (stk := fun r8 => [.int r8]) cx dX8_next_32 rfl cf_8 (Nat.le_of_ble_eq_true rfl) ml_RX8_341 rfl rfl (Nat.le_of_ble_eq_true rfl) (Nat.le_of_ble_eq_true rfl) (Nat.le_of_ble_eq_true rfl) (c_X8_canReach l hJ  _ x4_6 a1) (fun _ => rfl) (fun r8 S9 h10 o11 => ?_)
        refine G_if_ne (q := 38) (t := 41) cx dX8_next_35 rfl (by decide) (fun c12 => ?_) (fun c12 => ?_)
        · refine G_aload_n (q := 42) cx dX8_next_41 rfl rfl ?_
          refine G_callV (q := 45) (d' := 0) (f := 8) (i := 0) (As := []) (rest := []) (stk := fun _ => []) cx dX8_next_42 rfl cf_8 (Nat.le_of_ble_eq_true rfl) ml_RX8_332 rfl rfl (Nat.le_of_ble_eq_true rfl) (Nat.le_of_ble_eq_true rfl) (Nat.le_of_ble_eq_true rfl) (c_X8_save l hJ  _) (fun _ => rfl) (fun r13 S14 h15 o16 => ?_)
          refine G_aload_n (q := 46) cx dX8_next_45 rfl rfl ?_
          refine G_aload_n (q := 47) cx dX8_next_46 rfl rfl ?_
          refine G_getr (q := 50) (g := 24) (i' := 0) cx dX8_next_47 rfl cf_8 fl_RX8_35 (Nat.le_of_ble_eq_true rfl) rfl rfl (Nat.le_of_ble_eq_true rfl) ?_
          refine G_iload (q := 52) cx dX8_next_50 rfl rfl ?_
          refine G_iald (q := 53) cx dX8_next_52 rfl (by decide) rfl rfl (Nat.le_of_ble_eq_true rfl) (fun g17 g18 => ?_)
          refine G_iload_n (q := 54) cx dX8_next_53 rfl rfl ?_
          refine G_callV (q := 57) (d' := 2) (f := 8) (i := 0) (As := [.int (gI S14 24 0 x4_6.toNatClampNeg), .int a1]) (rest := []) (stk := fun r19 => [.int r19]) cx dX8_next_54 rfl cf_8 (Nat.le_of_ble_eq_true rfl) ml_RX8_329 rfl rfl (Nat.le_of_ble_eq_true rfl) (Nat.le_of_ble_eq_true rfl) (Nat.le_of_ble_eq_true rfl) (c_X8_goGlide l hJ  _ (gI S14 24 0 x4_6.toNatClampNeg) a1) (fun _ => rfl) (fun r19 S20 h21 o22 => ?_)
          refine G_istore (q := 59) (ls' := [(5, .int r19), (2, .int x2_6), (3, .int x3_6), (4, .int x4_6), (0, .ref (ad 8 0)), (1, .int a1)]) cx dX8_next_57 rfl (Nat.le_of_ble_eq_true rfl) rfl ?_
          refine G_aload_n (q := 60) cx dX8_next_59 rfl rfl ?_
          refine G_iload (q := 62) cx dX8_next_60 rfl rfl ?_
          refine G_callV (q := 65) (d' := 3) (f := 8) (i := 0) (As := [.int x4_6]) (rest := []) (stk := fun r23 => [.int r23]) cx dX8_next_62 rfl cf_8 (Nat.le_of_ble_eq_true rfl) ml_RX8_304 rfl rfl (Nat.le_of_ble_eq_true rfl) (Nat.le_of_ble_eq_true rfl) (Nat.le_of_ble_eq_true rfl) (c_X8_climb l hJ  _ x4_6) (fun _ => rfl) (fun r23 S24 h25 o26 => ?_)
          refine G_istore (q := 67) (ls' := [(6, .int r23), (5, .int r19), (2, .int x2_6), (3, .int x3_6), (4, .int x4_6), (0, .ref (ad 8 0)), (1, .int a1)]) cx dX8_next_65 rfl (Nat.le_of_ble_eq_true rfl) rfl ?_
          refine G_aload_n (q := 68) cx dX8_next_67 rfl rfl ?_
          refine G_callV (q := 71) (d' := 0) (f := 8) (i := 0) (As := []) (rest := []) (stk := fun _ => []) cx dX8_next_68 rfl cf_8 (Nat.le_of_ble_eq_true rfl) ml_RX8_335 rfl rfl (Nat.le_of_ble_eq_true rfl) (Nat.le_of_ble_eq_true rfl) (Nat.le_of_ble_eq_true rfl) (c_X8_putBack l hJ  _) (fun _ => rfl) (fun r27 S28 h29 o30 => ?_)
          refine G_iload_n (q := 72) cx dX8_next_71 rfl rfl ?_
          refine G_if_lt (q := 75) (t := 84) cx dX8_next_72 rfl (by decide) (fun c31 => ?_) (fun c31 => ?_)
          · refine G_iload (q := 86) cx dX8_next_84 rfl rfl ?_
            refine G_istore_n (q := 87) (ls' := [(2, .int x4_6), (6, .int r23), (5, .int r19), (3, .int x3_6), (4, .int x4_6), (0, .ref (ad 8 0)), (1, .int a1)]) cx dX8_next_86 rfl rfl (Nat.le_of_ble_eq_true rfl) rfl ?_
            refine G_iload (q := 89) cx dX8_next_87 rfl rfl ?_
            refine G_istore_n (q := 90) (ls' := [(3, .int r23), (2, .int x4_6), (6, .int r23), (5, .int r19), (4, .int x4_6), (0, .ref (ad 8 0)), (1, .int a1)]) cx dX8_next_89 rfl rfl (Nat.le_of_ble_eq_true rfl) rfl ?_
            refine G_iinc (q := 93) (j := 4) (v := x4_6 + 1) (ls' := [(4, .int (x4_6 + 1)), (3, .int r23), (2, .int x4_6), (6, .int r23), (5, .int r19), (0, .ref (ad 8 0)), (1, .int a1)]) cx dX8_next_90 rfl rfl rfl (Nat.le_of_ble_eq_true rfl) rfl ?_
            refine G_goto (t := 19) cx dX8_next_93 (by decide) ?_
            exact G_loc [2, 1, 0, 5, 6] rfl (ih_6 x4_6 r23 (x4_6 + 1) S28)
          refine G_iload (q := 77) cx dX8_next_75 rfl rfl ?_
          refine G_iload_n (q := 78) cx dX8_next_77 rfl rfl ?_
          refine G_icmp_gt (q := 81) (t := 84) cx dX8_next_78 rfl (by decide) (fun c32 => ?_) (fun c32 => ?_)
          · refine G_iload (q := 86) cx dX8_next_84 rfl rfl ?_
            refine G_istore_n (q := 87) (ls' := [(2, .int x4_6), (6, .int r23), (5, .int r19), (3, .int x3_6), (4, .int x4_6), (0, .ref (ad 8 0)), (1, .int a1)]) cx dX8_next_86 rfl rfl (Nat.le_of_ble_eq_true rfl) rfl ?_
            refine G_iload (q := 89) cx dX8_next_87 rfl rfl ?_
            refine G_istore_n (q := 90) (ls' := [(3, .int r23), (2, .int x4_6), (6, .int r23), (5, .int r19), (4, .int x4_6), (0, .ref (ad 8 0)), (1, .int a1)]) cx dX8_next_89 rfl rfl (Nat.le_of_ble_eq_true rfl) rfl ?_
            refine G_iinc (q := 93) (j := 4) (v := x4_6 + 1) (ls' := [(4, .int (x4_6 + 1)), (3, .int r23), (2, .int x4_6), (6, .int r23), (5, .int r19), (0, .ref (ad 8 0)), (1, .int a1)]) cx dX8_next_90 rfl rfl rfl (Nat.le_of_ble_eq_true rfl) rfl ?_
            refine G_goto (t := 19) cx dX8_next_93 (by decide) ?_
            exact G_loc [2, 1, 0, 5, 6] rfl (ih_6 x4_6 r23 (x4_6 + 1) S28)
          refine G_goto (t := 90) cx dX8_next_81 (by decide) ?_
          refine G_iinc (q := 93) (j := 4) (v := x4_6 + 1) (ls' := [(4, .int (x4_6 + 1)), (6, .int r23), (5, .int r19), (2, .int x2_6), (3, .int x3_6), (0, .ref (ad 8 0)), (1, .int a1)]) cx dX8_next_90 rfl rfl rfl (Nat.le_of_ble_eq_true rfl) rfl ?_
          refine G_goto (t := 19) cx dX8_next_93 (by decide) ?_
          exact G_loc [3, 4, 0, 5, 6] rfl (ih_6 x2_6 x3_6 (x4_6 + 1) S28)
        refine G_goto (t := 90) cx dX8_next_38 (by decide) ?_
        refine G_iinc (q := 93) (j := 2) (v := x4_6 + 1) (ls' := [(4, .int (x4_6 + 1)), (2, .int x2_6), (3, .int x3_6), (0, .ref (ad 8 0)), (1, .int a1)]) cx dX8_next_90 rfl rfl rfl (Nat.le_of_ble_eq_true rfl) rfl ?_
        refine G_goto (t := 19) cx dX8_next_93 (by decide) ?_
        exact G_loc [1, 2, 0, 3, 4] rfl (ih_6 x2_6 x3_6 (x4_6 + 1) S9)
    refine G_loc [2, 1, 0, 3, 4] rfl (lp_6 _ (fun y2_6 y3_6 y4_6 T_6 => ?_) 1000 (-5 : Int32) (0 : Int32) (0 : Int32) S2)
    refine G_iload_n (q := 97) cx dX8_next_96 rfl rfl ?_
    exact G_iret cx rfl dX8_next_97 trivial
  · refine G_bipush (q := 10) (v := (-2 : Int32)) cx dX8_next_8 rfl (by decide) ?_
    exact G_iret cx rfl dX8_next_10 trivial
def F_X8_lowest (S : St) (a1 : Int32) (a2 : Int32) : Option (Int32 × St) :=
  bnd (F_X8_isLift S a1) (fun r1 S2 =>
  if r1 = 0 then (some ((-1 : Int32), S2))
  else (bnd (F_X8_isPace S2 a2) (fun r6 S7 =>
  if r6 = 0 then (some ((-2 : Int32), S7))
  else (if 0 ≤ a1 ∧ a1.toNatClampNeg < 6 then (bnd (F_X8_falls S7 (gI S7 8 0 2) (gI S7 24 0 a1.toNatClampNeg) a2) (fun r13 S14 =>
  bnd (F_X8_safe S14) (fun r17 S18 =>
  if (r13 + r17) ≤ (400 : Int32) then (some (r13 + r17, S18))
  else (some ((-5 : Int32), S18)))))
  else none))))
set_option maxRecDepth 10000 in
theorem c_X8_lowest (l : Launch) {D : va_G} {cy : Nat → ClassId} {ad : Nat → Nat → Nat} (hJ : wJ ad nM) (S : St) (a1 : Int32) (a2 : Int32) : CT l yX8_lowest cX8_lowest 4 (some .int) 3 D cy ad nM toI okT [.ref (ad 8 0), .int a1, .int a2] S (F_X8_lowest S a1 a2) := by
  refine CT.of RX8 (by decide) rfl hJ (Nat.le_of_ble_eq_true rfl) rfl ?_
  intro p e s m below meth c cx
  unfold F_X8_lowest
  refine G_aload_n (q := 1) cx dX8_lowest_0 rfl rfl ?_
  refine G_iload_n (q := 2) cx dX8_lowest_1 rfl rfl ?_
  refine G_callV (q := 5) (d' := 1) (f := 8) (i := 0) (As := [.int a1]) (rest := []) (stk := fun r1 => [.int r1]) cx dX8_lowest_2 rfl cf_8 (Nat.le_of_ble_eq_true rfl) ml_RX8_235 rfl rfl (Nat.le_of_ble_eq_true rfl) (Nat.le_of_ble_eq_true rfl) (Nat.le_of_ble_eq_true rfl) (c_X8_isLift l hJ  _ a1) (fun _ => rfl) (fun r1 S2 h3 o4 => ?_)
  refine G_if_ne (q := 8) (t := 10) cx dX8_lowest_5 rfl (by decide) (fun c5 => ?_) (fun c5 => ?_)
  · refine G_aload_n (q := 11) cx dX8_lowest_10 rfl rfl ?_
    refine G_iload_n (q := 12) cx dX8_lowest_11 rfl rfl ?_
    refine G_callV (q := 15) (d' := 1) (f := 8) (i := 0) (As := [.int a2]) (rest := []) (stk := fun r6 => [.int r6]) cx dX8_lowest_12 rfl cf_8 (Nat.le_of_ble_eq_true rfl) ml_RX8_326 rfl rfl (Nat.le_of_ble_eq_true rfl) (Nat.le_of_ble_eq_true rfl) (Nat.le_of_ble_eq_true rfl) (c_X8_isPace l hJ  _ a2) (fun _ => rfl) (fun r6 S7 h8 o9 => ?_)
    refine G_if_ne (q := 18) (t := 21) cx dX8_lowest_15 rfl (by decide) (fun c10 => ?_) (fun c10 => ?_)
    · refine G_aload_n (q := 22) cx dX8_lowest_21 rfl rfl ?_
      refine G_aload_n (q := 23) cx dX8_lowest_22 rfl rfl ?_
      refine G_geti (q := 26) cx dX8_lowest_23 rfl cf_8 fl_RX8_16 (Nat.le_of_ble_eq_true rfl) rfl (Nat.le_of_ble_eq_true rfl) ?_
      refine G_aload_n (q := 27) cx dX8_lowest_26 rfl rfl ?_
      refine G_getr (q := 30) (g := 24) (i' := 0) cx dX8_lowest_27 rfl cf_8 fl_RX8_35 (Nat.le_of_ble_eq_true rfl) rfl rfl (Nat.le_of_ble_eq_true rfl) ?_
      refine G_iload_n (q := 31) cx dX8_lowest_30 rfl rfl ?_
      refine G_iald (q := 32) cx dX8_lowest_31 rfl (by decide) rfl rfl (Nat.le_of_ble_eq_true rfl) (fun g11 g12 => ?_)
      refine G_iload_n (q := 33) cx dX8_lowest_32 rfl rfl ?_
      refine G_callV (q := 36) (d' := 1) (f := 8) (i := 0) (As := [.int (gI S7 8 0 2), .int (gI S7 24 0 a1.toNatClampNeg), .int a2]) (rest := []) (stk := fun r13 => [.int r13]) cx dX8_lowest_33 rfl cf_8 (Nat.le_of_ble_eq_true rfl) ml_RX8_316 rfl rfl (Nat.le_of_ble_eq_true rfl) (Nat.le_of_ble_eq_true rfl) (Nat.le_of_ble_eq_true rfl) (c_X8_falls l hJ  _ (gI S7 8 0 2) (gI S7 24 0 a1.toNatClampNeg) a2) (fun _ => rfl) (fun r13 S14 h15 o16 => ?_)
      refine G_aload_n (q := 37) cx dX8_lowest_36 rfl rfl ?_
      refine G_callV (q := 40) (d' := 2) (f := 8) (i := 0) (As := []) (rest := [.int r13]) (stk := fun r17 => [.int r17, .int r13]) cx dX8_lowest_37 rfl cf_8 (Nat.le_of_ble_eq_true rfl) ml_RX8_310 rfl rfl (Nat.le_of_ble_eq_true rfl) (Nat.le_of_ble_eq_true rfl) (Nat.le_of_ble_eq_true rfl) (c_X8_safe l hJ  _) (fun _ => rfl) (fun r17 S18 h19 o20 => ?_)
      refine G_iadd (q := 41) cx dX8_lowest_40 rfl ?_
      refine G_istore_n (q := 42) (ls' := [(3, .int (r13 + r17)), (0, .ref (ad 8 0)), (1, .int a1), (2, .int a2)]) cx dX8_lowest_41 rfl rfl (Nat.le_of_ble_eq_true rfl) rfl ?_
      refine G_iload_n (q := 43) cx dX8_lowest_42 rfl rfl ?_
      refine G_sipush (q := 46) (v := (400 : Int32)) cx dX8_lowest_43 rfl (by decide) ?_
      refine G_icmp_le (q := 49) (t := 54) cx dX8_lowest_46 rfl (by decide) (fun c21 => ?_) (fun c21 => ?_)
      · refine G_iload_n (q := 55) cx dX8_lowest_54 rfl rfl ?_
        exact G_iret cx rfl dX8_lowest_55 trivial
      · refine G_bipush (q := 51) (v := (-5 : Int32)) cx dX8_lowest_49 rfl (by decide) ?_
        refine G_goto (t := 55) cx dX8_lowest_51 (by decide) ?_
        exact G_iret cx rfl dX8_lowest_55 trivial
    · refine G_bipush (q := 20) (v := (-2 : Int32)) cx dX8_lowest_18 rfl (by decide) ?_
      exact G_iret cx rfl dX8_lowest_20 trivial
  · refine G_iconst (q := 9) (v := (-1 : Int32)) cx dX8_lowest_8 rfl (by decide) ?_
    exact G_iret cx rfl dX8_lowest_9 trivial
def L_X8_rises_22 (a1 : Int32) (a4 : Int32) (r3 : Int32) (r7 : Int32) (K_11 : Int32 → St → Option (Int32 × St)) : Nat → Int32 → St → Option (Int32 × St)
  | 0, _, _ => none
  | n + 1, x6_11, S_11 =>
    if a4 ≤ x6_11 then (K_11 x6_11 S_11)
    else (if (r3 + r7) ≤ (gI S_11 8 0 3) then (K_11 x6_11 S_11)
    else (bnd (F_X8_goMinute S_11 a1) (fun r15 S16 =>
    L_X8_rises_22 a1 a4 r3 r7 K_11 n (x6_11 + 1) S16)))
def F_X8_rises (S : St) (a1 : Int32) (a2 : Int32) (a3 : Int32) (a4 : Int32) : Option (Int32 × St) :=
  if 0 ≤ a1 ∧ a1.toNatClampNeg < 6 then (bnd (F_X8_falls S (gI S 24 0 a1.toNatClampNeg) a2 a3) (fun r3 S4 =>
  bnd (F_X8_safe S4) (fun r7 S8 =>
  L_X8_rises_22 a1 a4 r3 r7 
  (fun y6_11 T_11 => if (gI (sI T_11 8 0 32 (gI T_11 8 0 3)) 8 0 3) < (r3 + r7) then (some ((0 : Int32), (sI T_11 8 0 32 (gI T_11 8 0 3))))
  else (some ((1 : Int32), (sI T_11 8 0 32 (gI T_11 8 0 3))))) 1000 (0 : Int32) S8)))
  else none
set_option maxRecDepth 10000 in
theorem c_X8_rises (l : Launch) {D : va_G} {cy : Nat → ClassId} {ad : Nat → Nat → Nat} (hJ : wJ ad nM) (S : St) (a1 : Int32) (a2 : Int32) (a3 : Int32) (a4 : Int32) : CT l yX8_rises cX8_rises 7 (some .boolean) 5 D cy ad nM toI okZ [.ref (ad 8 0), .int a1, .int a2, .int a3, .int a4] S (F_X8_rises S a1 a2 a3 a4) := by
  refine CT.of RX8 (by decide) rfl hJ (Nat.le_of_ble_eq_true rfl) rfl ?_
  intro p e s m below meth c cx
  unfold F_X8_rises
  refine G_aload_n (q := 1) cx dX8_rises_0 rfl rfl ?_
  refine G_aload_n (q := 2) cx dX8_rises_1 rfl rfl ?_
  refine G_getr (q := 5) (g := 24) (i' := 0) cx dX8_rises_2 rfl cf_8 fl_RX8_35 (Nat.le_of_ble_eq_true rfl) rfl rfl (Nat.le_of_ble_eq_true rfl) ?_
  refine G_iload_n (q := 6) cx dX8_rises_5 rfl rfl ?_
  refine G_iald (q := 7) cx dX8_rises_6 rfl (by decide) rfl rfl (Nat.le_of_ble_eq_true rfl) (fun g1 g2 => ?_)
  refine G_iload_n (q := 8) cx dX8_rises_7 rfl rfl ?_
  refine G_iload_n (q := 9) cx dX8_rises_8 rfl rfl ?_
  refine G_callV (q := 12) (d' := 1) (f := 8) (i := 0) (As := [.int (gI S 24 0 a1.toNatClampNeg), .int a2, .int a3]) (rest := []) (stk := fun r3 => [.int r3]) cx dX8_rises_9 rfl cf_8 (Nat.le_of_ble_eq_true rfl) ml_RX8_316 rfl rfl (Nat.le_of_ble_eq_true rfl) (Nat.le_of_ble_eq_true rfl) (Nat.le_of_ble_eq_true rfl) (c_X8_falls l hJ  _ (gI S 24 0 a1.toNatClampNeg) a2 a3) (fun _ => rfl) (fun r3 S4 h5 o6 => ?_)
  refine G_aload_n (q := 13) cx dX8_rises_12 rfl rfl ?_
  refine G_callV (q := 16) (d' := 2) (f := 8) (i := 0) (As := []) (rest := [.int r3]) (stk := fun r7 => [.int r7, .int r3]) cx dX8_rises_13 rfl cf_8 (Nat.le_of_ble_eq_true rfl) ml_RX8_310 rfl rfl (Nat.le_of_ble_eq_true rfl) (Nat.le_of_ble_eq_true rfl) (Nat.le_of_ble_eq_true rfl) (c_X8_safe l hJ  _) (fun _ => rfl) (fun r7 S8 h9 o10 => ?_)
  refine G_iadd (q := 17) cx dX8_rises_16 rfl ?_
  refine G_istore (q := 19) (ls' := [(5, .int (r3 + r7)), (0, .ref (ad 8 0)), (1, .int a1), (2, .int a2), (3, .int a3), (4, .int a4)]) cx dX8_rises_17 rfl (Nat.le_of_ble_eq_true rfl) rfl ?_
  refine G_iconst (q := 20) (v := (0 : Int32)) cx dX8_rises_19 rfl (by decide) ?_
  refine G_istore (q := 22) (ls' := [(6, .int (0 : Int32)), (5, .int (r3 + r7)), (0, .ref (ad 8 0)), (1, .int a1), (2, .int a2), (3, .int a3), (4, .int a4)]) cx dX8_rises_20 rfl (Nat.le_of_ble_eq_true rfl) rfl ?_
  have lp_11 : ∀ (K_11 : Int32 → St → Option (Int32 × St)) (hK_11 : ∀ (y6_11 : Int32) (T_11 : St), TG p l e 5 s m ([.ref (ad 8 0), .int a1, .int a2, .int a3, .int a4] : List Value).toArray below meth c D cy ad nM toI okZ T_11 49 [(6, .int y6_11), (5, .int (r3 + r7)), (0, .ref (ad 8 0)), (1, .int a1), (2, .int a2), (3, .int a3), (4, .int a4)] [] (K_11 y6_11 T_11)), ∀ (n_11 : Nat) (x6_11 : Int32) (S_11 : St), TG p l e 5 s m ([.ref (ad 8 0), .int a1, .int a2, .int a3, .int a4] : List Value).toArray below meth c D cy ad nM toI okZ S_11 22 [(6, .int x6_11), (5, .int (r3 + r7)), (0, .ref (ad 8 0)), (1, .int a1), (2, .int a2), (3, .int a3), (4, .int a4)] [] (L_X8_rises_22 a1 a4 r3 r7 K_11 n_11 x6_11 S_11) := by
    intro K_11 hK_11 n_11
    induction n_11 with
    | zero => intros; exact G_none
    | succ n_11 ih_11 =>
      intro x6_11 S_11
      rw [L_X8_rises_22.eq_2]
      refine G_iload (q := 24) cx dX8_rises_22 rfl rfl ?_
      refine G_iload (q := 26) cx dX8_rises_24 rfl rfl ?_
      refine G_icmp_ge (q := 29) (t := 49) cx dX8_rises_26 rfl (by decide) (fun c13 => ?_) (fun c13 => ?_)
      · exact G_loc [0, 1, 2, 3, 4, 5, 6] rfl (hK_11 x6_11 S_11)
      refine G_aload_n (q := 30) cx dX8_rises_29 rfl rfl ?_
      refine G_geti (q := 33) cx dX8_rises_30 rfl cf_8 fl_RX8_19 (Nat.le_of_ble_eq_true rfl) rfl (Nat.le_of_ble_eq_true rfl) ?_
      refine G_iload (q := 35) cx dX8_rises_33 rfl rfl ?_
      refine G_icmp_ge (q := 38) (t := 49) cx dX8_rises_35 rfl (by decide) (fun c14 => ?_) (fun c14 => ?_)
      · exact G_loc [0, 1, 2, 3, 4, 5, 6] rfl (hK_11 x6_11 S_11)
      refine G_aload_n (q := 39) cx dX8_rises_38 rfl rfl ?_
      refine G_iload_n (q := 40) cx dX8_rises_39 rfl rfl ?_
      refine G_callV (q := 43) (d' := 4) (f := 8) (i := 0) (As := [.int a1]) (rest := []) (stk := fun _ => []) cx dX8_rises_40 rfl cf_8 (Nat.le_of_ble_eq_true rfl) ml_RX8_323 rfl rfl (Nat.le_of_ble_eq_true rfl) (Nat.le_of_ble_eq_true rfl) (Nat.le_of_ble_eq_true rfl) (c_X8_goMinute l hJ  _ a1) (fun _ => rfl) (fun r15 S16 h17 o18 => ?_)
      refine G_iinc (q := 46) (j := 0) (v := x6_11 + 1) (ls' := [(6, .int (x6_11 + 1)), (5, .int (r3 + r7)), (0, .ref (ad 8 0)), (1, .int a1), (2, .int a2), (3, .int a3), (4, .int a4)]) cx dX8_rises_43 rfl rfl rfl (Nat.le_of_ble_eq_true rfl) rfl ?_
      refine G_goto (t := 22) cx dX8_rises_46 (by decide) ?_
      exact G_loc [0, 1, 2, 3, 4, 5, 6] rfl (ih_11 (x6_11 + 1) S16)
  refine G_loc [0, 1, 2, 3, 4, 5, 6] rfl (lp_11 _ (fun y6_11 T_11 => ?_) 1000 (0 : Int32) S8)
  refine G_aload_n (q := 50) cx dX8_rises_49 rfl rfl ?_
  refine G_aload_n (q := 51) cx dX8_rises_50 rfl rfl ?_
  refine G_geti (q := 54) cx dX8_rises_51 rfl cf_8 fl_RX8_19 (Nat.le_of_ble_eq_true rfl) rfl (Nat.le_of_ble_eq_true rfl) ?_
  refine G_puti (q := 57) cx dX8_rises_54 rfl cf_8 fl_RX8_108 (Nat.le_of_ble_eq_true rfl) rfl rfl rfl rfl rfl (Nat.le_of_ble_eq_true rfl) ?_
  refine G_aload_n (q := 58) cx dX8_rises_57 rfl rfl ?_
  refine G_geti (q := 61) cx dX8_rises_58 rfl cf_8 fl_RX8_19 (Nat.le_of_ble_eq_true rfl) rfl (Nat.le_of_ble_eq_true rfl) ?_
  refine G_iload (q := 63) cx dX8_rises_61 rfl rfl ?_
  refine G_icmp_lt (q := 66) (t := 70) cx dX8_rises_63 rfl (by decide) (fun c12 => ?_) (fun c12 => ?_)
  · refine G_iconst (q := 71) (v := (0 : Int32)) cx dX8_rises_70 rfl (by decide) ?_
    exact G_zret (ty := .boolean) cx rfl dX8_rises_71 rfl rfl
  · refine G_iconst (q := 67) (v := (1 : Int32)) cx dX8_rises_66 rfl (by decide) ?_
    refine G_goto (t := 71) cx dX8_rises_67 (by decide) ?_
    exact G_zret (ty := .boolean) cx rfl dX8_rises_71 rfl rfl
def F_X8_byOf (S : St) (a1 : Int32) (a2 : Int32) (a3 : Int32) : Option (Int32 × St) :=
  bnd (F_X8_save S) (fun r1 S2 =>
  if a1 < 0 then (if 0 ≤ a2 ∧ a2.toNatClampNeg < 6 then (bnd (F_X8_goGlide S2 (gI S2 24 0 a2.toNatClampNeg) a3) (fun r8 S9 =>
  if r8 = 0 then (bnd (F_X8_putBack S9) (fun r13 S14 =>
  some ((-5 : Int32), S14)))
  else (if 0 ≤ a1 then (bnd (F_X8_rises S9 a2 (gI S9 8 0 5) a3 (40 : Int32)) (fun r18 S19 =>
  if r18 = 0 then (bnd (F_X8_putBack S19) (fun r23 S24 =>
  some ((-5 : Int32), S24)))
  else (bnd (F_X8_goGlide S19 (gI S19 8 0 5) a3) (fun r27 S28 =>
  if r27 = 0 then (bnd (F_X8_putBack S28) (fun r32 S33 =>
  some ((-5 : Int32), S33)))
  else (bnd (F_X8_putBack S28) (fun r36 S37 =>
  some ((gI S28 8 0 1) - (gI S28 8 0 29), S37)))))))
  else (bnd (F_X8_rises S9 a2 (gI S9 8 0 5) a3 (60 : Int32)) (fun r40 S41 =>
  if r40 = 0 then (bnd (F_X8_putBack S41) (fun r45 S46 =>
  some ((-5 : Int32), S46)))
  else (bnd (F_X8_goGlide S41 (gI S41 8 0 5) a3) (fun r49 S50 =>
  if r49 = 0 then (bnd (F_X8_putBack S50) (fun r54 S55 =>
  some ((-5 : Int32), S55)))
  else (bnd (F_X8_putBack S50) (fun r58 S59 =>
  some ((gI S50 8 0 1) - (gI S50 8 0 29), S59))))))))))
  else none)
  else (if 0 ≤ a1 ∧ a1.toNatClampNeg < 6 then (bnd (F_X8_goGlide S2 (gI S2 24 0 a1.toNatClampNeg) a3) (fun r64 S65 =>
  if r64 = 0 then (bnd (F_X8_putBack S65) (fun r69 S70 =>
  some ((-5 : Int32), S70)))
  else (if 0 ≤ a2 ∧ a2.toNatClampNeg < 6 then (bnd (F_X8_rises S65 a1 (gI S65 24 0 a2.toNatClampNeg) a3 (40 : Int32)) (fun r75 S76 =>
  if r75 = 0 then (bnd (F_X8_putBack S76) (fun r80 S81 =>
  some ((-5 : Int32), S81)))
  else (if 0 ≤ a2 ∧ a2.toNatClampNeg < 6 then (bnd (F_X8_goGlide S76 (gI S76 24 0 a2.toNatClampNeg) a3) (fun r86 S87 =>
  if r86 = 0 then (bnd (F_X8_putBack S87) (fun r91 S92 =>
  some ((-5 : Int32), S92)))
  else (if 0 ≤ a1 then (bnd (F_X8_rises S87 a2 (gI S87 8 0 5) a3 (40 : Int32)) (fun r96 S97 =>
  if r96 = 0 then (bnd (F_X8_putBack S97) (fun r101 S102 =>
  some ((-5 : Int32), S102)))
  else (bnd (F_X8_goGlide S97 (gI S97 8 0 5) a3) (fun r105 S106 =>
  if r105 = 0 then (bnd (F_X8_putBack S106) (fun r110 S111 =>
  some ((-5 : Int32), S111)))
  else (bnd (F_X8_putBack S106) (fun r114 S115 =>
  some ((gI S106 8 0 1) - (gI S106 8 0 29), S115)))))))
  else (bnd (F_X8_rises S87 a2 (gI S87 8 0 5) a3 (60 : Int32)) (fun r118 S119 =>
  if r118 = 0 then (bnd (F_X8_putBack S119) (fun r123 S124 =>
  some ((-5 : Int32), S124)))
  else (bnd (F_X8_goGlide S119 (gI S119 8 0 5) a3) (fun r127 S128 =>
  if r127 = 0 then (bnd (F_X8_putBack S128) (fun r132 S133 =>
  some ((-5 : Int32), S133)))
  else (bnd (F_X8_putBack S128) (fun r136 S137 =>
  some ((gI S128 8 0 1) - (gI S128 8 0 29), S137))))))))))
  else none)))
  else none)))
  else none))
set_option maxRecDepth 10000 in
theorem c_X8_byOf (l : Launch) {D : va_G} {cy : Nat → ClassId} {ad : Nat → Nat → Nat} (hJ : wJ ad nM) (S : St) (a1 : Int32) (a2 : Int32) (a3 : Int32) : CT l yX8_byOf cX8_byOf 6 (some .int) 6 D cy ad nM toI okT [.ref (ad 8 0), .int a1, .int a2, .int a3] S (F_X8_byOf S a1 a2 a3) := by
  refine CT.of RX8 (by decide) rfl hJ (Nat.le_of_ble_eq_true rfl) rfl ?_
  intro p e s m below meth c cx
  unfold F_X8_byOf
  refine G_aload_n (q := 1) cx dX8_byOf_0 rfl rfl ?_
  refine G_callV (q := 4) (d' := 0) (f := 8) (i := 0) (As := []) (rest := []) (stk := fun _ => []) cx dX8_byOf_1 rfl cf_8 (Nat.le_of_ble_eq_true rfl) ml_RX8_332 rfl rfl (Nat.le_of_ble_eq_true rfl) (Nat.le_of_ble_eq_true rfl) (Nat.le_of_ble_eq_true rfl) (c_X8_save l hJ  _) (fun _ => rfl) (fun r1 S2 h3 o4 => ?_)
  refine G_iload_n (q := 5) cx dX8_byOf_4 rfl rfl ?_
  refine G_if_lt (q := 8) (t := 39) cx dX8_byOf_5 rfl (by decide) (fun c5 => ?_) (fun c5 => ?_)
  · refine G_iconst (q := 40) (v := (1 : Int32)) cx dX8_byOf_39 rfl (by decide) ?_
    refine G_goto (t := 44) cx dX8_byOf_40 (by decide) ?_
    refine G_istore (q := 46) (ls' := [(4, .int (1 : Int32)), (0, .ref (ad 8 0)), (1, .int a1), (2, .int a2), (3, .int a3)]) cx dX8_byOf_44 rfl (Nat.le_of_ble_eq_true rfl) rfl ?_
    refine G_iload (q := 48) cx dX8_byOf_46 rfl rfl ?_
    refine G_if_eq_n (q := 51) (t := 105) cx dX8_byOf_48 rfl (by decide) (by decide) ?_
    refine G_aload_n (q := 52) cx dX8_byOf_51 rfl rfl ?_
    refine G_aload_n (q := 53) cx dX8_byOf_52 rfl rfl ?_
    refine G_getr (q := 56) (g := 24) (i' := 0) cx dX8_byOf_53 rfl cf_8 fl_RX8_35 (Nat.le_of_ble_eq_true rfl) rfl rfl (Nat.le_of_ble_eq_true rfl) ?_
    refine G_iload_n (q := 57) cx dX8_byOf_56 rfl rfl ?_
    refine G_iald (q := 58) cx dX8_byOf_57 rfl (by decide) rfl rfl (Nat.le_of_ble_eq_true rfl) (fun g6 g7 => ?_)
    refine G_iload_n (q := 59) cx dX8_byOf_58 rfl rfl ?_
    refine G_callV (q := 62) (d' := 2) (f := 8) (i := 0) (As := [.int (gI S2 24 0 a2.toNatClampNeg), .int a3]) (rest := []) (stk := fun r8 => [.int r8]) cx dX8_byOf_59 rfl cf_8 (Nat.le_of_ble_eq_true rfl) ml_RX8_329 rfl rfl (Nat.le_of_ble_eq_true rfl) (Nat.le_of_ble_eq_true rfl) (Nat.le_of_ble_eq_true rfl) (c_X8_goGlide l hJ  _ (gI S2 24 0 a2.toNatClampNeg) a3) (fun _ => rfl) (fun r8 S9 h10 o11 => ?_)
    refine G_if_eq (q := 65) (t := 105) cx dX8_byOf_62 rfl (by decide) (fun c12 => ?_) (fun c12 => ?_)
    · refine G_iconst (q := 106) (v := (0 : Int32)) cx dX8_byOf_105 rfl (by decide) ?_
      refine G_istore (q := 108) (ls' := [(4, .int (0 : Int32)), (0, .ref (ad 8 0)), (1, .int a1), (2, .int a2), (3, .int a3)]) cx dX8_byOf_106 rfl (Nat.le_of_ble_eq_true rfl) rfl ?_
      refine G_aload_n (q := 109) cx dX8_byOf_108 rfl rfl ?_
      refine G_geti (q := 112) cx dX8_byOf_109 rfl cf_8 fl_RX8_13 (Nat.le_of_ble_eq_true rfl) rfl (Nat.le_of_ble_eq_true rfl) ?_
      refine G_aload_n (q := 113) cx dX8_byOf_112 rfl rfl ?_
      refine G_geti (q := 116) cx dX8_byOf_113 rfl cf_8 fl_RX8_99 (Nat.le_of_ble_eq_true rfl) rfl (Nat.le_of_ble_eq_true rfl) ?_
      refine G_isub (q := 117) cx dX8_byOf_116 rfl ?_
      refine G_istore (q := 119) (ls' := [(5, .int ((gI S9 8 0 1) - (gI S9 8 0 29))), (4, .int (0 : Int32)), (0, .ref (ad 8 0)), (1, .int a1), (2, .int a2), (3, .int a3)]) cx dX8_byOf_117 rfl (Nat.le_of_ble_eq_true rfl) rfl ?_
      refine G_aload_n (q := 120) cx dX8_byOf_119 rfl rfl ?_
      refine G_callV (q := 123) (d' := 0) (f := 8) (i := 0) (As := []) (rest := []) (stk := fun _ => []) cx dX8_byOf_120 rfl cf_8 (Nat.le_of_ble_eq_true rfl) ml_RX8_335 rfl rfl (Nat.le_of_ble_eq_true rfl) (Nat.le_of_ble_eq_true rfl) (Nat.le_of_ble_eq_true rfl) (c_X8_putBack l hJ  _) (fun _ => rfl) (fun r13 S14 h15 o16 => ?_)
      refine G_iload (q := 125) cx dX8_byOf_123 rfl rfl ?_
      refine G_if_eq_y (q := 128) (t := 133) cx dX8_byOf_125 rfl (by decide) (by decide) ?_
      refine G_bipush (q := 135) (v := (-5 : Int32)) cx dX8_byOf_133 rfl (by decide) ?_
      exact G_iret cx rfl dX8_byOf_135 trivial
    refine G_aload_n (q := 66) cx dX8_byOf_65 rfl rfl ?_
    refine G_iload_n (q := 67) cx dX8_byOf_66 rfl rfl ?_
    refine G_aload_n (q := 68) cx dX8_byOf_67 rfl rfl ?_
    refine G_geti (q := 71) cx dX8_byOf_68 rfl cf_8 fl_RX8_25 (Nat.le_of_ble_eq_true rfl) rfl (Nat.le_of_ble_eq_true rfl) ?_
    refine G_iload_n (q := 72) cx dX8_byOf_71 rfl rfl ?_
    refine G_iload_n (q := 73) cx dX8_byOf_72 rfl rfl ?_
    refine G_if_ge (q := 76) (t := 81) cx dX8_byOf_73 rfl (by decide) (fun c17 => ?_) (fun c17 => ?_)
    · refine G_bipush (q := 83) (v := (40 : Int32)) cx dX8_byOf_81 rfl (by decide) ?_
      refine G_callV (q := 86) (d' := 5) (f := 8) (i := 0) (As := [.int a2, .int (gI S9 8 0 5), .int a3, .int (40 : Int32)]) (rest := []) (stk := fun r18 => [.int r18]) cx dX8_byOf_83 rfl cf_8 (Nat.le_of_ble_eq_true rfl) ml_RX8_344 rfl rfl (Nat.le_of_ble_eq_true rfl) (Nat.le_of_ble_eq_true rfl) (Nat.le_of_ble_eq_true rfl) (c_X8_rises l hJ  _ a2 (gI S9 8 0 5) a3 (40 : Int32)) (fun _ => rfl) (fun r18 S19 h20 o21 => ?_)
      refine G_if_eq (q := 89) (t := 105) cx dX8_byOf_86 rfl (by decide) (fun c22 => ?_) (fun c22 => ?_)
      · refine G_iconst (q := 106) (v := (0 : Int32)) cx dX8_byOf_105 rfl (by decide) ?_
        refine G_istore (q := 108) (ls' := [(4, .int (0 : Int32)), (0, .ref (ad 8 0)), (1, .int a1), (2, .int a2), (3, .int a3)]) cx dX8_byOf_106 rfl (Nat.le_of_ble_eq_true rfl) rfl ?_
        refine G_aload_n (q := 109) cx dX8_byOf_108 rfl rfl ?_
        refine G_geti (q := 112) cx dX8_byOf_109 rfl cf_8 fl_RX8_13 (Nat.le_of_ble_eq_true rfl) rfl (Nat.le_of_ble_eq_true rfl) ?_
        refine G_aload_n (q := 113) cx dX8_byOf_112 rfl rfl ?_
        refine G_geti (q := 116) cx dX8_byOf_113 rfl cf_8 fl_RX8_99 (Nat.le_of_ble_eq_true rfl) rfl (Nat.le_of_ble_eq_true rfl) ?_
        refine G_isub (q := 117) cx dX8_byOf_116 rfl ?_
        refine G_istore (q := 119) (ls' := [(5, .int ((gI S19 8 0 1) - (gI S19 8 0 29))), (4, .int (0 : Int32)), (0, .ref (ad 8 0)), (1, .int a1), (2, .int a2), (3, .int a3)]) cx dX8_byOf_117 rfl (Nat.le_of_ble_eq_true rfl) rfl ?_
        refine G_aload_n (q := 120) cx dX8_byOf_119 rfl rfl ?_
        refine G_callV (q := 123) (d' := 0) (f := 8) (i := 0) (As := []) (rest := []) (stk := fun _ => []) cx dX8_byOf_120 rfl cf_8 (Nat.le_of_ble_eq_true rfl) ml_RX8_335 rfl rfl (Nat.le_of_ble_eq_true rfl) (Nat.le_of_ble_eq_true rfl) (Nat.le_of_ble_eq_true rfl) (c_X8_putBack l hJ  _) (fun _ => rfl) (fun r23 S24 h25 o26 => ?_)
        refine G_iload (q := 125) cx dX8_byOf_123 rfl rfl ?_
        refine G_if_eq_y (q := 128) (t := 133) cx dX8_byOf_125 rfl (by decide) (by decide) ?_
        refine G_bipush (q := 135) (v := (-5 : Int32)) cx dX8_byOf_133 rfl (by decide) ?_
        exact G_iret cx rfl dX8_byOf_135 trivial
      refine G_aload_n (q := 90) cx dX8_byOf_89 rfl rfl ?_
      refine G_aload_n (q := 91) cx dX8_byOf_90 rfl rfl ?_
      refine G_geti (q := 94) cx dX8_byOf_91 rfl cf_8 fl_RX8_25 (Nat.le_of_ble_eq_true rfl) rfl (Nat.le_of_ble_eq_true rfl) ?_
      refine G_iload_n (q := 95) cx dX8_byOf_94 rfl rfl ?_
      refine G_callV (q := 98) (d' := 2) (f := 8) (i := 0) (As := [.int (gI S19 8 0 5), .int a3]) (rest := []) (stk := fun r27 => [.int r27]) cx dX8_byOf_95 rfl cf_8 (Nat.le_of_ble_eq_true rfl) ml_RX8_329 rfl rfl (Nat.le_of_ble_eq_true rfl) (Nat.le_of_ble_eq_true rfl) (Nat.le_of_ble_eq_true rfl) (c_X8_goGlide l hJ  _ (gI S19 8 0 5) a3) (fun _ => rfl) (fun r27 S28 h29 o30 => ?_)
      refine G_if_eq (q := 101) (t := 105) cx dX8_byOf_98 rfl (by decide) (fun c31 => ?_) (fun c31 => ?_)
      · refine G_iconst (q := 106) (v := (0 : Int32)) cx dX8_byOf_105 rfl (by decide) ?_
        refine G_istore (q := 108) (ls' := [(4, .int (0 : Int32)), (0, .ref (ad 8 0)), (1, .int a1), (2, .int a2), (3, .int a3)]) cx dX8_byOf_106 rfl (Nat.le_of_ble_eq_true rfl) rfl ?_
        refine G_aload_n (q := 109) cx dX8_byOf_108 rfl rfl ?_
        refine G_geti (q := 112) cx dX8_byOf_109 rfl cf_8 fl_RX8_13 (Nat.le_of_ble_eq_true rfl) rfl (Nat.le_of_ble_eq_true rfl) ?_
        refine G_aload_n (q := 113) cx dX8_byOf_112 rfl rfl ?_
        refine G_geti (q := 116) cx dX8_byOf_113 rfl cf_8 fl_RX8_99 (Nat.le_of_ble_eq_true rfl) rfl (Nat.le_of_ble_eq_true rfl) ?_
        refine G_isub (q := 117) cx dX8_byOf_116 rfl ?_
        refine G_istore (q := 119) (ls' := [(5, .int ((gI S28 8 0 1) - (gI S28 8 0 29))), (4, .int (0 : Int32)), (0, .ref (ad 8 0)), (1, .int a1), (2, .int a2), (3, .int a3)]) cx dX8_byOf_117 rfl (Nat.le_of_ble_eq_true rfl) rfl ?_
        refine G_aload_n (q := 120) cx dX8_byOf_119 rfl rfl ?_
        refine G_callV (q := 123) (d' := 0) (f := 8) (i := 0) (As := []) (rest := []) (stk := fun _ => []) cx dX8_byOf_120 rfl cf_8 (Nat.le_of_ble_eq_true rfl) ml_RX8_335 rfl rfl (Nat.le_of_ble_eq_true rfl) (Nat.le_of_ble_eq_true rfl) (Nat.le_of_ble_eq_true rfl) (c_X8_putBack l hJ  _) (fun _ => rfl) (fun r32 S33 h34 o35 => ?_)
        refine G_iload (q := 125) cx dX8_byOf_123 rfl rfl ?_
        refine G_if_eq_y (q := 128) (t := 133) cx dX8_byOf_125 rfl (by decide) (by decide) ?_
        refine G_bipush (q := 135) (v := (-5 : Int32)) cx dX8_byOf_133 rfl (by decide) ?_
        exact G_iret cx rfl dX8_byOf_135 trivial
      refine G_iconst (q := 102) (v := (1 : Int32)) cx dX8_byOf_101 rfl (by decide) ?_
      refine G_goto (t := 106) cx dX8_byOf_102 (by decide) ?_
      refine G_istore (q := 108) (ls' := [(4, .int (1 : Int32)), (0, .ref (ad 8 0)), (1, .int a1), (2, .int a2), (3, .int a3)]) cx dX8_byOf_106 rfl (Nat.le_of_ble_eq_true rfl) rfl ?_
      refine G_aload_n (q := 109) cx dX8_byOf_108 rfl rfl ?_
      refine G_geti (q := 112) cx dX8_byOf_109 rfl cf_8 fl_RX8_13 (Nat.le_of_ble_eq_true rfl) rfl (Nat.le_of_ble_eq_true rfl) ?_
      refine G_aload_n (q := 113) cx dX8_byOf_112 rfl rfl ?_
      refine G_geti (q := 116) cx dX8_byOf_113 rfl cf_8 fl_RX8_99 (Nat.le_of_ble_eq_true rfl) rfl (Nat.le_of_ble_eq_true rfl) ?_
      refine G_isub (q := 117) cx dX8_byOf_116 rfl ?_
      refine G_istore (q := 119) (ls' := [(5, .int ((gI S28 8 0 1) - (gI S28 8 0 29))), (4, .int (1 : Int32)), (0, .ref (ad 8 0)), (1, .int a1), (2, .int a2), (3, .int a3)]) cx dX8_byOf_117 rfl (Nat.le_of_ble_eq_true rfl) rfl ?_
      refine G_aload_n (q := 120) cx dX8_byOf_119 rfl rfl ?_
      refine G_callV (q := 123) (d' := 0) (f := 8) (i := 0) (As := []) (rest := []) (stk := fun _ => []) cx dX8_byOf_120 rfl cf_8 (Nat.le_of_ble_eq_true rfl) ml_RX8_335 rfl rfl (Nat.le_of_ble_eq_true rfl) (Nat.le_of_ble_eq_true rfl) (Nat.le_of_ble_eq_true rfl) (c_X8_putBack l hJ  _) (fun _ => rfl) (fun r36 S37 h38 o39 => ?_)
      refine G_iload (q := 125) cx dX8_byOf_123 rfl rfl ?_
      refine G_if_eq_n (q := 128) (t := 133) cx dX8_byOf_125 rfl (by decide) (by decide) ?_
      refine G_iload (q := 130) cx dX8_byOf_128 rfl rfl ?_
      refine G_goto (t := 135) cx dX8_byOf_130 (by decide) ?_
      exact G_iret cx rfl dX8_byOf_135 trivial
    refine G_bipush (q := 78) (v := (60 : Int32)) cx dX8_byOf_76 rfl (by decide) ?_
    refine G_goto (t := 83) cx dX8_byOf_78 (by decide) ?_
    refine G_callV (q := 86) (d' := 5) (f := 8) (i := 0) (As := [.int a2, .int (gI S9 8 0 5), .int a3, .int (60 : Int32)]) (rest := []) (stk := fun r40 => [.int r40]) cx dX8_byOf_83 rfl cf_8 (Nat.le_of_ble_eq_true rfl) ml_RX8_344 rfl rfl (Nat.le_of_ble_eq_true rfl) (Nat.le_of_ble_eq_true rfl) (Nat.le_of_ble_eq_true rfl) (c_X8_rises l hJ  _ a2 (gI S9 8 0 5) a3 (60 : Int32)) (fun _ => rfl) (fun r40 S41 h42 o43 => ?_)
    refine G_if_eq (q := 89) (t := 105) cx dX8_byOf_86 rfl (by decide) (fun c44 => ?_) (fun c44 => ?_)
    · refine G_iconst (q := 106) (v := (0 : Int32)) cx dX8_byOf_105 rfl (by decide) ?_
      refine G_istore (q := 108) (ls' := [(4, .int (0 : Int32)), (0, .ref (ad 8 0)), (1, .int a1), (2, .int a2), (3, .int a3)]) cx dX8_byOf_106 rfl (Nat.le_of_ble_eq_true rfl) rfl ?_
      refine G_aload_n (q := 109) cx dX8_byOf_108 rfl rfl ?_
      refine G_geti (q := 112) cx dX8_byOf_109 rfl cf_8 fl_RX8_13 (Nat.le_of_ble_eq_true rfl) rfl (Nat.le_of_ble_eq_true rfl) ?_
      refine G_aload_n (q := 113) cx dX8_byOf_112 rfl rfl ?_
      refine G_geti (q := 116) cx dX8_byOf_113 rfl cf_8 fl_RX8_99 (Nat.le_of_ble_eq_true rfl) rfl (Nat.le_of_ble_eq_true rfl) ?_
      refine G_isub (q := 117) cx dX8_byOf_116 rfl ?_
      refine G_istore (q := 119) (ls' := [(5, .int ((gI S41 8 0 1) - (gI S41 8 0 29))), (4, .int (0 : Int32)), (0, .ref (ad 8 0)), (1, .int a1), (2, .int a2), (3, .int a3)]) cx dX8_byOf_117 rfl (Nat.le_of_ble_eq_true rfl) rfl ?_
      refine G_aload_n (q := 120) cx dX8_byOf_119 rfl rfl ?_
      refine G_callV (q := 123) (d' := 0) (f := 8) (i := 0) (As := []) (rest := []) (stk := fun _ => []) cx dX8_byOf_120 rfl cf_8 (Nat.le_of_ble_eq_true rfl) ml_RX8_335 rfl rfl (Nat.le_of_ble_eq_true rfl) (Nat.le_of_ble_eq_true rfl) (Nat.le_of_ble_eq_true rfl) (c_X8_putBack l hJ  _) (fun _ => rfl) (fun r45 S46 h47 o48 => ?_)
      refine G_iload (q := 125) cx dX8_byOf_123 rfl rfl ?_
      refine G_if_eq_y (q := 128) (t := 133) cx dX8_byOf_125 rfl (by decide) (by decide) ?_
      refine G_bipush (q := 135) (v := (-5 : Int32)) cx dX8_byOf_133 rfl (by decide) ?_
      exact G_iret cx rfl dX8_byOf_135 trivial
    refine G_aload_n (q := 90) cx dX8_byOf_89 rfl rfl ?_
    refine G_aload_n (q := 91) cx dX8_byOf_90 rfl rfl ?_
    refine G_geti (q := 94) cx dX8_byOf_91 rfl cf_8 fl_RX8_25 (Nat.le_of_ble_eq_true rfl) rfl (Nat.le_of_ble_eq_true rfl) ?_
    refine G_iload_n (q := 95) cx dX8_byOf_94 rfl rfl ?_
    refine G_callV (q := 98) (d' := 2) (f := 8) (i := 0) (As := [.int (gI S41 8 0 5), .int a3]) (rest := []) (stk := fun r49 => [.int r49]) cx dX8_byOf_95 rfl cf_8 (Nat.le_of_ble_eq_true rfl) ml_RX8_329 rfl rfl (Nat.le_of_ble_eq_true rfl) (Nat.le_of_ble_eq_true rfl) (Nat.le_of_ble_eq_true rfl) (c_X8_goGlide l hJ  _ (gI S41 8 0 5) a3) (fun _ => rfl) (fun r49 S50 h51 o52 => ?_)
    refine G_if_eq (q := 101) (t := 105) cx dX8_byOf_98 rfl (by decide) (fun c53 => ?_) (fun c53 => ?_)
    · refine G_iconst (q := 106) (v := (0 : Int32)) cx dX8_byOf_105 rfl (by decide) ?_
      refine G_istore (q := 108) (ls' := [(4, .int (0 : Int32)), (0, .ref (ad 8 0)), (1, .int a1), (2, .int a2), (3, .int a3)]) cx dX8_byOf_106 rfl (Nat.le_of_ble_eq_true rfl) rfl ?_
      refine G_aload_n (q := 109) cx dX8_byOf_108 rfl rfl ?_
      refine G_geti (q := 112) cx dX8_byOf_109 rfl cf_8 fl_RX8_13 (Nat.le_of_ble_eq_true rfl) rfl (Nat.le_of_ble_eq_true rfl) ?_
      refine G_aload_n (q := 113) cx dX8_byOf_112 rfl rfl ?_
      refine G_geti (q := 116) cx dX8_byOf_113 rfl cf_8 fl_RX8_99 (Nat.le_of_ble_eq_true rfl) rfl (Nat.le_of_ble_eq_true rfl) ?_
      refine G_isub (q := 117) cx dX8_byOf_116 rfl ?_
      refine G_istore (q := 119) (ls' := [(5, .int ((gI S50 8 0 1) - (gI S50 8 0 29))), (4, .int (0 : Int32)), (0, .ref (ad 8 0)), (1, .int a1), (2, .int a2), (3, .int a3)]) cx dX8_byOf_117 rfl (Nat.le_of_ble_eq_true rfl) rfl ?_
      refine G_aload_n (q := 120) cx dX8_byOf_119 rfl rfl ?_
      refine G_callV (q := 123) (d' := 0) (f := 8) (i := 0) (As := []) (rest := []) (stk := fun _ => []) cx dX8_byOf_120 rfl cf_8 (Nat.le_of_ble_eq_true rfl) ml_RX8_335 rfl rfl (Nat.le_of_ble_eq_true rfl) (Nat.le_of_ble_eq_true rfl) (Nat.le_of_ble_eq_true rfl) (c_X8_putBack l hJ  _) (fun _ => rfl) (fun r54 S55 h56 o57 => ?_)
      refine G_iload (q := 125) cx dX8_byOf_123 rfl rfl ?_
      refine G_if_eq_y (q := 128) (t := 133) cx dX8_byOf_125 rfl (by decide) (by decide) ?_
      refine G_bipush (q := 135) (v := (-5 : Int32)) cx dX8_byOf_133 rfl (by decide) ?_
      exact G_iret cx rfl dX8_byOf_135 trivial
    refine G_iconst (q := 102) (v := (1 : Int32)) cx dX8_byOf_101 rfl (by decide) ?_
    refine G_goto (t := 106) cx dX8_byOf_102 (by decide) ?_
    refine G_istore (q := 108) (ls' := [(4, .int (1 : Int32)), (0, .ref (ad 8 0)), (1, .int a1), (2, .int a2), (3, .int a3)]) cx dX8_byOf_106 rfl (Nat.le_of_ble_eq_true rfl) rfl ?_
    refine G_aload_n (q := 109) cx dX8_byOf_108 rfl rfl ?_
    refine G_geti (q := 112) cx dX8_byOf_109 rfl cf_8 fl_RX8_13 (Nat.le_of_ble_eq_true rfl) rfl (Nat.le_of_ble_eq_true rfl) ?_
    refine G_aload_n (q := 113) cx dX8_byOf_112 rfl rfl ?_
    refine G_geti (q := 116) cx dX8_byOf_113 rfl cf_8 fl_RX8_99 (Nat.le_of_ble_eq_true rfl) rfl (Nat.le_of_ble_eq_true rfl) ?_
    refine G_isub (q := 117) cx dX8_byOf_116 rfl ?_
    refine G_istore (q := 119) (ls' := [(5, .int ((gI S50 8 0 1) - (gI S50 8 0 29))), (4, .int (1 : Int32)), (0, .ref (ad 8 0)), (1, .int a1), (2, .int a2), (3, .int a3)]) cx dX8_byOf_117 rfl (Nat.le_of_ble_eq_true rfl) rfl ?_
    refine G_aload_n (q := 120) cx dX8_byOf_119 rfl rfl ?_
    refine G_callV (q := 123) (d' := 0) (f := 8) (i := 0) (As := []) (rest := []) (stk := fun _ => []) cx dX8_byOf_120 rfl cf_8 (Nat.le_of_ble_eq_true rfl) ml_RX8_335 rfl rfl (Nat.le_of_ble_eq_true rfl) (Nat.le_of_ble_eq_true rfl) (Nat.le_of_ble_eq_true rfl) (c_X8_putBack l hJ  _) (fun _ => rfl) (fun r58 S59 h60 o61 => ?_)
    refine G_iload (q := 125) cx dX8_byOf_123 rfl rfl ?_
    refine G_if_eq_n (q := 128) (t := 133) cx dX8_byOf_125 rfl (by decide) (by decide) ?_
    refine G_iload (q := 130) cx dX8_byOf_128 rfl rfl ?_
    refine G_goto (t := 135) cx dX8_byOf_130 (by decide) ?_
    exact G_iret cx rfl dX8_byOf_135 trivial
  refine G_aload_n (q := 9) cx dX8_byOf_8 rfl rfl ?_
  refine G_aload_n (q := 10) cx dX8_byOf_9 rfl rfl ?_
  refine G_getr (q := 13) (g := 24) (i' := 0) cx dX8_byOf_10 rfl cf_8 fl_RX8_35 (Nat.le_of_ble_eq_true rfl) rfl rfl (Nat.le_of_ble_eq_true rfl) ?_
  refine G_iload_n (q := 14) cx dX8_byOf_13 rfl rfl ?_
  refine G_iald (q := 15) cx dX8_byOf_14 rfl (by decide) rfl rfl (Nat.le_of_ble_eq_true rfl) (fun g62 g63 => ?_)
  refine G_iload_n (q := 16) cx dX8_byOf_15 rfl rfl ?_
  refine G_callV (q := 19) (d' := 2) (f := 8) (i := 0) (As := [.int (gI S2 24 0 a1.toNatClampNeg), .int a3]) (rest := []) (stk := fun r64 => [.int r64]) cx dX8_byOf_16 rfl cf_8 (Nat.le_of_ble_eq_true rfl) ml_RX8_329 rfl rfl (Nat.le_of_ble_eq_true rfl) (Nat.le_of_ble_eq_true rfl) (Nat.le_of_ble_eq_true rfl) (c_X8_goGlide l hJ  _ (gI S2 24 0 a1.toNatClampNeg) a3) (fun _ => rfl) (fun r64 S65 h66 o67 => ?_)
  refine G_if_eq (q := 22) (t := 43) cx dX8_byOf_19 rfl (by decide) (fun c68 => ?_) (fun c68 => ?_)
  · refine G_iconst (q := 44) (v := (0 : Int32)) cx dX8_byOf_43 rfl (by decide) ?_
    refine G_istore (q := 46) (ls' := [(4, .int (0 : Int32)), (0, .ref (ad 8 0)), (1, .int a1), (2, .int a2), (3, .int a3)]) cx dX8_byOf_44 rfl (Nat.le_of_ble_eq_true rfl) rfl ?_
    refine G_iload (q := 48) cx dX8_byOf_46 rfl rfl ?_
    refine G_if_eq_y (q := 51) (t := 105) cx dX8_byOf_48 rfl (by decide) (by decide) ?_
    refine G_iconst (q := 106) (v := (0 : Int32)) cx dX8_byOf_105 rfl (by decide) ?_
    refine G_istore (q := 108) (ls' := [(4, .int (0 : Int32)), (0, .ref (ad 8 0)), (1, .int a1), (2, .int a2), (3, .int a3)]) cx dX8_byOf_106 rfl (Nat.le_of_ble_eq_true rfl) rfl ?_
    refine G_aload_n (q := 109) cx dX8_byOf_108 rfl rfl ?_
    refine G_geti (q := 112) cx dX8_byOf_109 rfl cf_8 fl_RX8_13 (Nat.le_of_ble_eq_true rfl) rfl (Nat.le_of_ble_eq_true rfl) ?_
    refine G_aload_n (q := 113) cx dX8_byOf_112 rfl rfl ?_
    refine G_geti (q := 116) cx dX8_byOf_113 rfl cf_8 fl_RX8_99 (Nat.le_of_ble_eq_true rfl) rfl (Nat.le_of_ble_eq_true rfl) ?_
    refine G_isub (q := 117) cx dX8_byOf_116 rfl ?_
    refine G_istore (q := 119) (ls' := [(5, .int ((gI S65 8 0 1) - (gI S65 8 0 29))), (4, .int (0 : Int32)), (0, .ref (ad 8 0)), (1, .int a1), (2, .int a2), (3, .int a3)]) cx dX8_byOf_117 rfl (Nat.le_of_ble_eq_true rfl) rfl ?_
    refine G_aload_n (q := 120) cx dX8_byOf_119 rfl rfl ?_
    refine G_callV (q := 123) (d' := 0) (f := 8) (i := 0) (As := []) (rest := []) (stk := fun _ => []) cx dX8_byOf_120 rfl cf_8 (Nat.le_of_ble_eq_true rfl) ml_RX8_335 rfl rfl (Nat.le_of_ble_eq_true rfl) (Nat.le_of_ble_eq_true rfl) (Nat.le_of_ble_eq_true rfl) (c_X8_putBack l hJ  _) (fun _ => rfl) (fun r69 S70 h71 o72 => ?_)
    refine G_iload (q := 125) cx dX8_byOf_123 rfl rfl ?_
    refine G_if_eq_y (q := 128) (t := 133) cx dX8_byOf_125 rfl (by decide) (by decide) ?_
    refine G_bipush (q := 135) (v := (-5 : Int32)) cx dX8_byOf_133 rfl (by decide) ?_
    exact G_iret cx rfl dX8_byOf_135 trivial
  refine G_aload_n (q := 23) cx dX8_byOf_22 rfl rfl ?_
  refine G_iload_n (q := 24) cx dX8_byOf_23 rfl rfl ?_
  refine G_aload_n (q := 25) cx dX8_byOf_24 rfl rfl ?_
  refine G_getr (q := 28) (g := 24) (i' := 0) cx dX8_byOf_25 rfl cf_8 fl_RX8_35 (Nat.le_of_ble_eq_true rfl) rfl rfl (Nat.le_of_ble_eq_true rfl) ?_
  refine G_iload_n (q := 29) cx dX8_byOf_28 rfl rfl ?_
  refine G_iald (q := 30) cx dX8_byOf_29 rfl (by decide) rfl rfl (Nat.le_of_ble_eq_true rfl) (fun g73 g74 => ?_)
  refine G_iload_n (q := 31) cx dX8_byOf_30 rfl rfl ?_
  refine G_bipush (q := 33) (v := (40 : Int32)) cx dX8_byOf_31 rfl (by decide) ?_
  refine G_callV (q := 36) (d' := 5) (f := 8) (i := 0) (As := [.int a1, .int (gI S65 24 0 a2.toNatClampNeg), .int a3, .int (40 : Int32)]) (rest := []) (stk := fun r75 => [.int r75]) cx dX8_byOf_33 rfl cf_8 (Nat.le_of_ble_eq_true rfl) ml_RX8_344 rfl rfl (Nat.le_of_ble_eq_true rfl) (Nat.le_of_ble_eq_true rfl) (Nat.le_of_ble_eq_true rfl) (c_X8_rises l hJ  _ a1 (gI S65 24 0 a2.toNatClampNeg) a3 (40 : Int32)) (fun _ => rfl) (fun r75 S76 h77 o78 => ?_)
  refine G_if_eq (q := 39) (t := 43) cx dX8_byOf_36 rfl (by decide) (fun c79 => ?_) (fun c79 => ?_)
  · refine G_iconst (q := 44) (v := (0 : Int32)) cx dX8_byOf_43 rfl (by decide) ?_
    refine G_istore (q := 46) (ls' := [(4, .int (0 : Int32)), (0, .ref (ad 8 0)), (1, .int a1), (2, .int a2), (3, .int a3)]) cx dX8_byOf_44 rfl (Nat.le_of_ble_eq_true rfl) rfl ?_
    refine G_iload (q := 48) cx dX8_byOf_46 rfl rfl ?_
    refine G_if_eq_y (q := 51) (t := 105) cx dX8_byOf_48 rfl (by decide) (by decide) ?_
    refine G_iconst (q := 106) (v := (0 : Int32)) cx dX8_byOf_105 rfl (by decide) ?_
    refine G_istore (q := 108) (ls' := [(4, .int (0 : Int32)), (0, .ref (ad 8 0)), (1, .int a1), (2, .int a2), (3, .int a3)]) cx dX8_byOf_106 rfl (Nat.le_of_ble_eq_true rfl) rfl ?_
    refine G_aload_n (q := 109) cx dX8_byOf_108 rfl rfl ?_
    refine G_geti (q := 112) cx dX8_byOf_109 rfl cf_8 fl_RX8_13 (Nat.le_of_ble_eq_true rfl) rfl (Nat.le_of_ble_eq_true rfl) ?_
    refine G_aload_n (q := 113) cx dX8_byOf_112 rfl rfl ?_
    refine G_geti (q := 116) cx dX8_byOf_113 rfl cf_8 fl_RX8_99 (Nat.le_of_ble_eq_true rfl) rfl (Nat.le_of_ble_eq_true rfl) ?_
    refine G_isub (q := 117) cx dX8_byOf_116 rfl ?_
    refine G_istore (q := 119) (ls' := [(5, .int ((gI S76 8 0 1) - (gI S76 8 0 29))), (4, .int (0 : Int32)), (0, .ref (ad 8 0)), (1, .int a1), (2, .int a2), (3, .int a3)]) cx dX8_byOf_117 rfl (Nat.le_of_ble_eq_true rfl) rfl ?_
    refine G_aload_n (q := 120) cx dX8_byOf_119 rfl rfl ?_
    refine G_callV (q := 123) (d' := 0) (f := 8) (i := 0) (As := []) (rest := []) (stk := fun _ => []) cx dX8_byOf_120 rfl cf_8 (Nat.le_of_ble_eq_true rfl) ml_RX8_335 rfl rfl (Nat.le_of_ble_eq_true rfl) (Nat.le_of_ble_eq_true rfl) (Nat.le_of_ble_eq_true rfl) (c_X8_putBack l hJ  _) (fun _ => rfl) (fun r80 S81 h82 o83 => ?_)
    refine G_iload (q := 125) cx dX8_byOf_123 rfl rfl ?_
    refine G_if_eq_y (q := 128) (t := 133) cx dX8_byOf_125 rfl (by decide) (by decide) ?_
    refine G_bipush (q := 135) (v := (-5 : Int32)) cx dX8_byOf_133 rfl (by decide) ?_
    exact G_iret cx rfl dX8_byOf_135 trivial
  refine G_iconst (q := 40) (v := (1 : Int32)) cx dX8_byOf_39 rfl (by decide) ?_
  refine G_goto (t := 44) cx dX8_byOf_40 (by decide) ?_
  refine G_istore (q := 46) (ls' := [(4, .int (1 : Int32)), (0, .ref (ad 8 0)), (1, .int a1), (2, .int a2), (3, .int a3)]) cx dX8_byOf_44 rfl (Nat.le_of_ble_eq_true rfl) rfl ?_
  refine G_iload (q := 48) cx dX8_byOf_46 rfl rfl ?_
  refine G_if_eq_n (q := 51) (t := 105) cx dX8_byOf_48 rfl (by decide) (by decide) ?_
  refine G_aload_n (q := 52) cx dX8_byOf_51 rfl rfl ?_
  refine G_aload_n (q := 53) cx dX8_byOf_52 rfl rfl ?_
  refine G_getr (q := 56) (g := 24) (i' := 0) cx dX8_byOf_53 rfl cf_8 fl_RX8_35 (Nat.le_of_ble_eq_true rfl) rfl rfl (Nat.le_of_ble_eq_true rfl) ?_
  refine G_iload_n (q := 57) cx dX8_byOf_56 rfl rfl ?_
  refine G_iald (q := 58) cx dX8_byOf_57 rfl (by decide) rfl rfl (Nat.le_of_ble_eq_true rfl) (fun g84 g85 => ?_)
  refine G_iload_n (q := 59) cx dX8_byOf_58 rfl rfl ?_
  refine G_callV (q := 62) (d' := 2) (f := 8) (i := 0) (As := [.int (gI S76 24 0 a2.toNatClampNeg), .int a3]) (rest := []) (stk := fun r86 => [.int r86]) cx dX8_byOf_59 rfl cf_8 (Nat.le_of_ble_eq_true rfl) ml_RX8_329 rfl rfl (Nat.le_of_ble_eq_true rfl) (Nat.le_of_ble_eq_true rfl) (Nat.le_of_ble_eq_true rfl) (c_X8_goGlide l hJ  _ (gI S76 24 0 a2.toNatClampNeg) a3) (fun _ => rfl) (fun r86 S87 h88 o89 => ?_)
  refine G_if_eq (q := 65) (t := 105) cx dX8_byOf_62 rfl (by decide) (fun c90 => ?_) (fun c90 => ?_)
  · refine G_iconst (q := 106) (v := (0 : Int32)) cx dX8_byOf_105 rfl (by decide) ?_
    refine G_istore (q := 108) (ls' := [(4, .int (0 : Int32)), (0, .ref (ad 8 0)), (1, .int a1), (2, .int a2), (3, .int a3)]) cx dX8_byOf_106 rfl (Nat.le_of_ble_eq_true rfl) rfl ?_
    refine G_aload_n (q := 109) cx dX8_byOf_108 rfl rfl ?_
    refine G_geti (q := 112) cx dX8_byOf_109 rfl cf_8 fl_RX8_13 (Nat.le_of_ble_eq_true rfl) rfl (Nat.le_of_ble_eq_true rfl) ?_
    refine G_aload_n (q := 113) cx dX8_byOf_112 rfl rfl ?_
    refine G_geti (q := 116) cx dX8_byOf_113 rfl cf_8 fl_RX8_99 (Nat.le_of_ble_eq_true rfl) rfl (Nat.le_of_ble_eq_true rfl) ?_
    refine G_isub (q := 117) cx dX8_byOf_116 rfl ?_
    refine G_istore (q := 119) (ls' := [(5, .int ((gI S87 8 0 1) - (gI S87 8 0 29))), (4, .int (0 : Int32)), (0, .ref (ad 8 0)), (1, .int a1), (2, .int a2), (3, .int a3)]) cx dX8_byOf_117 rfl (Nat.le_of_ble_eq_true rfl) rfl ?_
    refine G_aload_n (q := 120) cx dX8_byOf_119 rfl rfl ?_
    refine G_callV (q := 123) (d' := 0) (f := 8) (i := 0) (As := []) (rest := []) (stk := fun _ => []) cx dX8_byOf_120 rfl cf_8 (Nat.le_of_ble_eq_true rfl) ml_RX8_335 rfl rfl (Nat.le_of_ble_eq_true rfl) (Nat.le_of_ble_eq_true rfl) (Nat.le_of_ble_eq_true rfl) (c_X8_putBack l hJ  _) (fun _ => rfl) (fun r91 S92 h93 o94 => ?_)
    refine G_iload (q := 125) cx dX8_byOf_123 rfl rfl ?_
    refine G_if_eq_y (q := 128) (t := 133) cx dX8_byOf_125 rfl (by decide) (by decide) ?_
    refine G_bipush (q := 135) (v := (-5 : Int32)) cx dX8_byOf_133 rfl (by decide) ?_
    exact G_iret cx rfl dX8_byOf_135 trivial
  refine G_aload_n (q := 66) cx dX8_byOf_65 rfl rfl ?_
  refine G_iload_n (q := 67) cx dX8_byOf_66 rfl rfl ?_
  refine G_aload_n (q := 68) cx dX8_byOf_67 rfl rfl ?_
  refine G_geti (q := 71) cx dX8_byOf_68 rfl cf_8 fl_RX8_25 (Nat.le_of_ble_eq_true rfl) rfl (Nat.le_of_ble_eq_true rfl) ?_
  refine G_iload_n (q := 72) cx dX8_byOf_71 rfl rfl ?_
  refine G_iload_n (q := 73) cx dX8_byOf_72 rfl rfl ?_
  refine G_if_ge (q := 76) (t := 81) cx dX8_byOf_73 rfl (by decide) (fun c95 => ?_) (fun c95 => ?_)
  · refine G_bipush (q := 83) (v := (40 : Int32)) cx dX8_byOf_81 rfl (by decide) ?_
    refine G_callV (q := 86) (d' := 5) (f := 8) (i := 0) (As := [.int a2, .int (gI S87 8 0 5), .int a3, .int (40 : Int32)]) (rest := []) (stk := fun r96 => [.int r96]) cx dX8_byOf_83 rfl cf_8 (Nat.le_of_ble_eq_true rfl) ml_RX8_344 rfl rfl (Nat.le_of_ble_eq_true rfl) (Nat.le_of_ble_eq_true rfl) (Nat.le_of_ble_eq_true rfl) (c_X8_rises l hJ  _ a2 (gI S87 8 0 5) a3 (40 : Int32)) (fun _ => rfl) (fun r96 S97 h98 o99 => ?_)
    refine G_if_eq (q := 89) (t := 105) cx dX8_byOf_86 rfl (by decide) (fun c100 => ?_) (fun c100 => ?_)
    · refine G_iconst (q := 106) (v := (0 : Int32)) cx dX8_byOf_105 rfl (by decide) ?_
      refine G_istore (q := 108) (ls' := [(4, .int (0 : Int32)), (0, .ref (ad 8 0)), (1, .int a1), (2, .int a2), (3, .int a3)]) cx dX8_byOf_106 rfl (Nat.le_of_ble_eq_true rfl) rfl ?_
      refine G_aload_n (q := 109) cx dX8_byOf_108 rfl rfl ?_
      refine G_geti (q := 112) cx dX8_byOf_109 rfl cf_8 fl_RX8_13 (Nat.le_of_ble_eq_true rfl) rfl (Nat.le_of_ble_eq_true rfl) ?_
      refine G_aload_n (q := 113) cx dX8_byOf_112 rfl rfl ?_
      refine G_geti (q := 116) cx dX8_byOf_113 rfl cf_8 fl_RX8_99 (Nat.le_of_ble_eq_true rfl) rfl (Nat.le_of_ble_eq_true rfl) ?_
      refine G_isub (q := 117) cx dX8_byOf_116 rfl ?_
      refine G_istore (q := 119) (ls' := [(5, .int ((gI S97 8 0 1) - (gI S97 8 0 29))), (4, .int (0 : Int32)), (0, .ref (ad 8 0)), (1, .int a1), (2, .int a2), (3, .int a3)]) cx dX8_byOf_117 rfl (Nat.le_of_ble_eq_true rfl) rfl ?_
      refine G_aload_n (q := 120) cx dX8_byOf_119 rfl rfl ?_
      refine G_callV (q := 123) (d' := 0) (f := 8) (i := 0) (As := []) (rest := []) (stk := fun _ => []) cx dX8_byOf_120 rfl cf_8 (Nat.le_of_ble_eq_true rfl) ml_RX8_335 rfl rfl (Nat.le_of_ble_eq_true rfl) (Nat.le_of_ble_eq_true rfl) (Nat.le_of_ble_eq_true rfl) (c_X8_putBack l hJ  _) (fun _ => rfl) (fun r101 S102 h103 o104 => ?_)
      refine G_iload (q := 125) cx dX8_byOf_123 rfl rfl ?_
      refine G_if_eq_y (q := 128) (t := 133) cx dX8_byOf_125 rfl (by decide) (by decide) ?_
      refine G_bipush (q := 135) (v := (-5 : Int32)) cx dX8_byOf_133 rfl (by decide) ?_
      exact G_iret cx rfl dX8_byOf_135 trivial
    refine G_aload_n (q := 90) cx dX8_byOf_89 rfl rfl ?_
    refine G_aload_n (q := 91) cx dX8_byOf_90 rfl rfl ?_
    refine G_geti (q := 94) cx dX8_byOf_91 rfl cf_8 fl_RX8_25 (Nat.le_of_ble_eq_true rfl) rfl (Nat.le_of_ble_eq_true rfl) ?_
    refine G_iload_n (q := 95) cx dX8_byOf_94 rfl rfl ?_
    refine G_callV (q := 98) (d' := 2) (f := 8) (i := 0) (As := [.int (gI S97 8 0 5), .int a3]) (rest := []) (stk := fun r105 => [.int r105]) cx dX8_byOf_95 rfl cf_8 (Nat.le_of_ble_eq_true rfl) ml_RX8_329 rfl rfl (Nat.le_of_ble_eq_true rfl) (Nat.le_of_ble_eq_true rfl) (Nat.le_of_ble_eq_true rfl) (c_X8_goGlide l hJ  _ (gI S97 8 0 5) a3) (fun _ => rfl) (fun r105 S106 h107 o108 => ?_)
    refine G_if_eq (q := 101) (t := 105) cx dX8_byOf_98 rfl (by decide) (fun c109 => ?_) (fun c109 => ?_)
    · refine G_iconst (q := 106) (v := (0 : Int32)) cx dX8_byOf_105 rfl (by decide) ?_
      refine G_istore (q := 108) (ls' := [(4, .int (0 : Int32)), (0, .ref (ad 8 0)), (1, .int a1), (2, .int a2), (3, .int a3)]) cx dX8_byOf_106 rfl (Nat.le_of_ble_eq_true rfl) rfl ?_
      refine G_aload_n (q := 109) cx dX8_byOf_108 rfl rfl ?_
      refine G_geti (q := 112) cx dX8_byOf_109 rfl cf_8 fl_RX8_13 (Nat.le_of_ble_eq_true rfl) rfl (Nat.le_of_ble_eq_true rfl) ?_
      refine G_aload_n (q := 113) cx dX8_byOf_112 rfl rfl ?_
      refine G_geti (q := 116) cx dX8_byOf_113 rfl cf_8 fl_RX8_99 (Nat.le_of_ble_eq_true rfl) rfl (Nat.le_of_ble_eq_true rfl) ?_
      refine G_isub (q := 117) cx dX8_byOf_116 rfl ?_
      refine G_istore (q := 119) (ls' := [(5, .int ((gI S106 8 0 1) - (gI S106 8 0 29))), (4, .int (0 : Int32)), (0, .ref (ad 8 0)), (1, .int a1), (2, .int a2), (3, .int a3)]) cx dX8_byOf_117 rfl (Nat.le_of_ble_eq_true rfl) rfl ?_
      refine G_aload_n (q := 120) cx dX8_byOf_119 rfl rfl ?_
      refine G_callV (q := 123) (d' := 0) (f := 8) (i := 0) (As := []) (rest := []) (stk := fun _ => []) cx dX8_byOf_120 rfl cf_8 (Nat.le_of_ble_eq_true rfl) ml_RX8_335 rfl rfl (Nat.le_of_ble_eq_true rfl) (Nat.le_of_ble_eq_true rfl) (Nat.le_of_ble_eq_true rfl) (c_X8_putBack l hJ  _) (fun _ => rfl) (fun r110 S111 h112 o113 => ?_)
      refine G_iload (q := 125) cx dX8_byOf_123 rfl rfl ?_
      refine G_if_eq_y (q := 128) (t := 133) cx dX8_byOf_125 rfl (by decide) (by decide) ?_
      refine G_bipush (q := 135) (v := (-5 : Int32)) cx dX8_byOf_133 rfl (by decide) ?_
      exact G_iret cx rfl dX8_byOf_135 trivial
    refine G_iconst (q := 102) (v := (1 : Int32)) cx dX8_byOf_101 rfl (by decide) ?_
    refine G_goto (t := 106) cx dX8_byOf_102 (by decide) ?_
    refine G_istore (q := 108) (ls' := [(4, .int (1 : Int32)), (0, .ref (ad 8 0)), (1, .int a1), (2, .int a2), (3, .int a3)]) cx dX8_byOf_106 rfl (Nat.le_of_ble_eq_true rfl) rfl ?_
    refine G_aload_n (q := 109) cx dX8_byOf_108 rfl rfl ?_
    refine G_geti (q := 112) cx dX8_byOf_109 rfl cf_8 fl_RX8_13 (Nat.le_of_ble_eq_true rfl) rfl (Nat.le_of_ble_eq_true rfl) ?_
    refine G_aload_n (q := 113) cx dX8_byOf_112 rfl rfl ?_
    refine G_geti (q := 116) cx dX8_byOf_113 rfl cf_8 fl_RX8_99 (Nat.le_of_ble_eq_true rfl) rfl (Nat.le_of_ble_eq_true rfl) ?_
    refine G_isub (q := 117) cx dX8_byOf_116 rfl ?_
    refine G_istore (q := 119) (ls' := [(5, .int ((gI S106 8 0 1) - (gI S106 8 0 29))), (4, .int (1 : Int32)), (0, .ref (ad 8 0)), (1, .int a1), (2, .int a2), (3, .int a3)]) cx dX8_byOf_117 rfl (Nat.le_of_ble_eq_true rfl) rfl ?_
    refine G_aload_n (q := 120) cx dX8_byOf_119 rfl rfl ?_
    refine G_callV (q := 123) (d' := 0) (f := 8) (i := 0) (As := []) (rest := []) (stk := fun _ => []) cx dX8_byOf_120 rfl cf_8 (Nat.le_of_ble_eq_true rfl) ml_RX8_335 rfl rfl (Nat.le_of_ble_eq_true rfl) (Nat.le_of_ble_eq_true rfl) (Nat.le_of_ble_eq_true rfl) (c_X8_putBack l hJ  _) (fun _ => rfl) (fun r114 S115 h116 o117 => ?_)
    refine G_iload (q := 125) cx dX8_byOf_123 rfl rfl ?_
    refine G_if_eq_n (q := 128) (t := 133) cx dX8_byOf_125 rfl (by decide) (by decide) ?_
    refine G_iload (q := 130) cx dX8_byOf_128 rfl rfl ?_
    refine G_goto (t := 135) cx dX8_byOf_130 (by decide) ?_
    exact G_iret cx rfl dX8_byOf_135 trivial
  refine G_bipush (q := 78) (v := (60 : Int32)) cx dX8_byOf_76 rfl (by decide) ?_
  refine G_goto (t := 83) cx dX8_byOf_78 (by decide) ?_
  refine G_callV (q := 86) (d' := 5) (f := 8) (i := 0) (As := [.int a2, .int (gI S87 8 0 5), .int a3, .int (60 : Int32)]) (rest := []) (stk := fun r118 => [.int r118]) cx dX8_byOf_83 rfl cf_8 (Nat.le_of_ble_eq_true rfl) ml_RX8_344 rfl rfl (Nat.le_of_ble_eq_true rfl) (Nat.le_of_ble_eq_true rfl) (Nat.le_of_ble_eq_true rfl) (c_X8_rises l hJ  _ a2 (gI S87 8 0 5) a3 (60 : Int32)) (fun _ => rfl) (fun r118 S119 h120 o121 => ?_)
  refine G_if_eq (q := 89) (t := 105) cx dX8_byOf_86 rfl (by decide) (fun c122 => ?_) (fun c122 => ?_)
  · refine G_iconst (q := 106) (v := (0 : Int32)) cx dX8_byOf_105 rfl (by decide) ?_
    refine G_istore (q := 108) (ls' := [(4, .int (0 : Int32)), (0, .ref (ad 8 0)), (1, .int a1), (2, .int a2), (3, .int a3)]) cx dX8_byOf_106 rfl (Nat.le_of_ble_eq_true rfl) rfl ?_
    refine G_aload_n (q := 109) cx dX8_byOf_108 rfl rfl ?_
    refine G_geti (q := 112) cx dX8_byOf_109 rfl cf_8 fl_RX8_13 (Nat.le_of_ble_eq_true rfl) rfl (Nat.le_of_ble_eq_true rfl) ?_
    refine G_aload_n (q := 113) cx dX8_byOf_112 rfl rfl ?_
    refine G_geti (q := 116) cx dX8_byOf_113 rfl cf_8 fl_RX8_99 (Nat.le_of_ble_eq_true rfl) rfl (Nat.le_of_ble_eq_true rfl) ?_
    refine G_isub (q := 117) cx dX8_byOf_116 rfl ?_
    refine G_istore (q := 119) (ls' := [(5, .int ((gI S119 8 0 1) - (gI S119 8 0 29))), (4, .int (0 : Int32)), (0, .ref (ad 8 0)), (1, .int a1), (2, .int a2), (3, .int a3)]) cx dX8_byOf_117 rfl (Nat.le_of_ble_eq_true rfl) rfl ?_
    refine G_aload_n (q := 120) cx dX8_byOf_119 rfl rfl ?_
    refine G_callV (q := 123) (d' := 0) (f := 8) (i := 0) (As := []) (rest := []) (stk := fun _ => []) cx dX8_byOf_120 rfl cf_8 (Nat.le_of_ble_eq_true rfl) ml_RX8_335 rfl rfl (Nat.le_of_ble_eq_true rfl) (Nat.le_of_ble_eq_true rfl) (Nat.le_of_ble_eq_true rfl) (c_X8_putBack l hJ  _) (fun _ => rfl) (fun r123 S124 h125 o126 => ?_)
    refine G_iload (q := 125) cx dX8_byOf_123 rfl rfl ?_
    refine G_if_eq_y (q := 128) (t := 133) cx dX8_byOf_125 rfl (by decide) (by decide) ?_
    refine G_bipush (q := 135) (v := (-5 : Int32)) cx dX8_byOf_133 rfl (by decide) ?_
    exact G_iret cx rfl dX8_byOf_135 trivial
  refine G_aload_n (q := 90) cx dX8_byOf_89 rfl rfl ?_
  refine G_aload_n (q := 91) cx dX8_byOf_90 rfl rfl ?_
  refine G_geti (q := 94) cx dX8_byOf_91 rfl cf_8 fl_RX8_25 (Nat.le_of_ble_eq_true rfl) rfl (Nat.le_of_ble_eq_true rfl) ?_
  refine G_iload_n (q := 95) cx dX8_byOf_94 rfl rfl ?_
  refine G_callV (q := 98) (d' := 2) (f := 8) (i := 0) (As := [.int (gI S119 8 0 5), .int a3]) (rest := []) (stk := fun r127 => [.int r127]) cx dX8_byOf_95 rfl cf_8 (Nat.le_of_ble_eq_true rfl) ml_RX8_329 rfl rfl (Nat.le_of_ble_eq_true rfl) (Nat.le_of_ble_eq_true rfl) (Nat.le_of_ble_eq_true rfl) (c_X8_goGlide l hJ  _ (gI S119 8 0 5) a3) (fun _ => rfl) (fun r127 S128 h129 o130 => ?_)
  refine G_if_eq (q := 101) (t := 105) cx dX8_byOf_98 rfl (by decide) (fun c131 => ?_) (fun c131 => ?_)
  · refine G_iconst (q := 106) (v := (0 : Int32)) cx dX8_byOf_105 rfl (by decide) ?_
    refine G_istore (q := 108) (ls' := [(4, .int (0 : Int32)), (0, .ref (ad 8 0)), (1, .int a1), (2, .int a2), (3, .int a3)]) cx dX8_byOf_106 rfl (Nat.le_of_ble_eq_true rfl) rfl ?_
    refine G_aload_n (q := 109) cx dX8_byOf_108 rfl rfl ?_
    refine G_geti (q := 112) cx dX8_byOf_109 rfl cf_8 fl_RX8_13 (Nat.le_of_ble_eq_true rfl) rfl (Nat.le_of_ble_eq_true rfl) ?_
    refine G_aload_n (q := 113) cx dX8_byOf_112 rfl rfl ?_
    refine G_geti (q := 116) cx dX8_byOf_113 rfl cf_8 fl_RX8_99 (Nat.le_of_ble_eq_true rfl) rfl (Nat.le_of_ble_eq_true rfl) ?_
    refine G_isub (q := 117) cx dX8_byOf_116 rfl ?_
    refine G_istore (q := 119) (ls' := [(5, .int ((gI S128 8 0 1) - (gI S128 8 0 29))), (4, .int (0 : Int32)), (0, .ref (ad 8 0)), (1, .int a1), (2, .int a2), (3, .int a3)]) cx dX8_byOf_117 rfl (Nat.le_of_ble_eq_true rfl) rfl ?_
    refine G_aload_n (q := 120) cx dX8_byOf_119 rfl rfl ?_
    refine G_callV (q := 123) (d' := 0) (f := 8) (i := 0) (As := []) (rest := []) (stk := fun _ => []) cx dX8_byOf_120 rfl cf_8 (Nat.le_of_ble_eq_true rfl) ml_RX8_335 rfl rfl (Nat.le_of_ble_eq_true rfl) (Nat.le_of_ble_eq_true rfl) (Nat.le_of_ble_eq_true rfl) (c_X8_putBack l hJ  _) (fun _ => rfl) (fun r132 S133 h134 o135 => ?_)
    refine G_iload (q := 125) cx dX8_byOf_123 rfl rfl ?_
    refine G_if_eq_y (q := 128) (t := 133) cx dX8_byOf_125 rfl (by decide) (by decide) ?_
    refine G_bipush (q := 135) (v := (-5 : Int32)) cx dX8_byOf_133 rfl (by decide) ?_
    exact G_iret cx rfl dX8_byOf_135 trivial
  refine G_iconst (q := 102) (v := (1 : Int32)) cx dX8_byOf_101 rfl (by decide) ?_
  refine G_goto (t := 106) cx dX8_byOf_102 (by decide) ?_
  refine G_istore (q := 108) (ls' := [(4, .int (1 : Int32)), (0, .ref (ad 8 0)), (1, .int a1), (2, .int a2), (3, .int a3)]) cx dX8_byOf_106 rfl (Nat.le_of_ble_eq_true rfl) rfl ?_
  refine G_aload_n (q := 109) cx dX8_byOf_108 rfl rfl ?_
  refine G_geti (q := 112) cx dX8_byOf_109 rfl cf_8 fl_RX8_13 (Nat.le_of_ble_eq_true rfl) rfl (Nat.le_of_ble_eq_true rfl) ?_
  refine G_aload_n (q := 113) cx dX8_byOf_112 rfl rfl ?_
  refine G_geti (q := 116) cx dX8_byOf_113 rfl cf_8 fl_RX8_99 (Nat.le_of_ble_eq_true rfl) rfl (Nat.le_of_ble_eq_true rfl) ?_
  refine G_isub (q := 117) cx dX8_byOf_116 rfl ?_
  refine G_istore (q := 119) (ls' := [(5, .int ((gI S128 8 0 1) - (gI S128 8 0 29))), (4, .int (1 : Int32)), (0, .ref (ad 8 0)), (1, .int a1), (2, .int a2), (3, .int a3)]) cx dX8_byOf_117 rfl (Nat.le_of_ble_eq_true rfl) rfl ?_
  refine G_aload_n (q := 120) cx dX8_byOf_119 rfl rfl ?_
  refine G_callV (q := 123) (d' := 0) (f := 8) (i := 0) (As := []) (rest := []) (stk := fun _ => []) cx dX8_byOf_120 rfl cf_8 (Nat.le_of_ble_eq_true rfl) ml_RX8_335 rfl rfl (Nat.le_of_ble_eq_true rfl) (Nat.le_of_ble_eq_true rfl) (Nat.le_of_ble_eq_true rfl) (c_X8_putBack l hJ  _) (fun _ => rfl) (fun r136 S137 h138 o139 => ?_)
  refine G_iload (q := 125) cx dX8_byOf_123 rfl rfl ?_
  refine G_if_eq_n (q := 128) (t := 133) cx dX8_byOf_125 rfl (by decide) (by decide) ?_
  refine G_iload (q := 130) cx dX8_byOf_128 rfl rfl ?_
  refine G_goto (t := 135) cx dX8_byOf_130 (by decide) ?_
  exact G_iret cx rfl dX8_byOf_135 trivial
def F_X8_by (S : St) (a1 : Int32) (a2 : Int32) (a3 : Int32) : Option (Int32 × St) :=
  bnd (F_X8_isLift S a1) (fun r1 S2 =>
  if r1 = 0 then (some ((-1 : Int32), S2))
  else (bnd (F_X8_in S2 a3 (0 : Int32) (1 : Int32)) (fun r6 S7 =>
  if r6 = 0 then (some ((-1 : Int32), S7))
  else (bnd (F_X8_isPace S7 a2) (fun r11 S12 =>
  if r11 = 0 then (some ((-2 : Int32), S12))
  else (bnd (F_X8_byOf S12 (-1 : Int32) a1 a2) (fun r16 S17 =>
  if r16 < 0 then (some (r16, S17))
  else (if a3 = 0 then (some (r16, S17))
  else (some (gI S17 8 0 32, S17))))))))))
set_option maxRecDepth 10000 in
theorem c_X8_by (l : Launch) {D : va_G} {cy : Nat → ClassId} {ad : Nat → Nat → Nat} (hJ : wJ ad nM) (S : St) (a1 : Int32) (a2 : Int32) (a3 : Int32) : CT l yX8_by cX8_by 5 (some .int) 7 D cy ad nM toI okT [.ref (ad 8 0), .int a1, .int a2, .int a3] S (F_X8_by S a1 a2 a3) := by
  refine CT.of RX8 (by decide) rfl hJ (Nat.le_of_ble_eq_true rfl) rfl ?_
  intro p e s m below meth c cx
  unfold F_X8_by
  refine G_aload_n (q := 1) cx dX8_by_0 rfl rfl ?_
  refine G_iload_n (q := 2) cx dX8_by_1 rfl rfl ?_
  refine G_callV (q := 5) (d' := 1) (f := 8) (i := 0) (As := [.int a1]) (rest := []) (stk := fun r1 => [.int r1]) cx dX8_by_2 rfl cf_8 (Nat.le_of_ble_eq_true rfl) ml_RX8_235 rfl rfl (Nat.le_of_ble_eq_true rfl) (Nat.le_of_ble_eq_true rfl) (Nat.le_of_ble_eq_true rfl) (c_X8_isLift l hJ  _ a1) (fun _ => rfl) (fun r1 S2 h3 o4 => ?_)
  refine G_if_eq (q := 8) (t := 18) cx dX8_by_5 rfl (by decide) (fun c5 => ?_) (fun c5 => ?_)
  · refine G_iconst (q := 19) (v := (-1 : Int32)) cx dX8_by_18 rfl (by decide) ?_
    exact G_iret cx rfl dX8_by_19 trivial
  refine G_aload_n (q := 9) cx dX8_by_8 rfl rfl ?_
  refine G_iload_n (q := 10) cx dX8_by_9 rfl rfl ?_
  refine G_iconst (q := 11) (v := (0 : Int32)) cx dX8_by_10 rfl (by decide) ?_
  refine G_iconst (q := 12) (v := (1 : Int32)) cx dX8_by_11 rfl (by decide) ?_
  refine G_callV (q := 15) (d' := 0) (f := 8) (i := 0) (As := [.int a3, .int (0 : Int32), .int (1 : Int32)]) (rest := []) (stk := fun r6 => [.int r6]) cx dX8_by_12 rfl cf_8 (Nat.le_of_ble_eq_true rfl) ml_RX8_227 rfl rfl (Nat.le_of_ble_eq_true rfl) (Nat.le_of_ble_eq_true rfl) (Nat.le_of_ble_eq_true rfl) (c_X8_in l hJ  _ a3 (0 : Int32) (1 : Int32)) (fun _ => rfl) (fun r6 S7 h8 o9 => ?_)
  refine G_if_ne (q := 18) (t := 20) cx dX8_by_15 rfl (by decide) (fun c10 => ?_) (fun c10 => ?_)
  · refine G_aload_n (q := 21) cx dX8_by_20 rfl rfl ?_
    refine G_iload_n (q := 22) cx dX8_by_21 rfl rfl ?_
    refine G_callV (q := 25) (d' := 1) (f := 8) (i := 0) (As := [.int a2]) (rest := []) (stk := fun r11 => [.int r11]) cx dX8_by_22 rfl cf_8 (Nat.le_of_ble_eq_true rfl) ml_RX8_326 rfl rfl (Nat.le_of_ble_eq_true rfl) (Nat.le_of_ble_eq_true rfl) (Nat.le_of_ble_eq_true rfl) (c_X8_isPace l hJ  _ a2) (fun _ => rfl) (fun r11 S12 h13 o14 => ?_)
    refine G_if_ne (q := 28) (t := 31) cx dX8_by_25 rfl (by decide) (fun c15 => ?_) (fun c15 => ?_)
    · refine G_aload_n (q := 32) cx dX8_by_31 rfl rfl ?_
      refine G_iconst (q := 33) (v := (-1 : Int32)) cx dX8_by_32 rfl (by decide) ?_
      refine G_iload_n (q := 34) cx dX8_by_33 rfl rfl ?_
      refine G_iload_n (q := 35) cx dX8_by_34 rfl rfl ?_
      refine G_callV (q := 38) (d' := 6) (f := 8) (i := 0) (As := [.int (-1 : Int32), .int a1, .int a2]) (rest := []) (stk := fun r16 => [.int r16]) cx dX8_by_35 rfl cf_8 (Nat.le_of_ble_eq_true rfl) ml_RX8_348 rfl rfl (Nat.le_of_ble_eq_true rfl) (Nat.le_of_ble_eq_true rfl) (Nat.le_of_ble_eq_true rfl) (c_X8_byOf l hJ  _ (-1 : Int32) a1 a2) (fun _ => rfl) (fun r16 S17 h18 o19 => ?_)
      refine G_istore (q := 40) (ls' := [(4, .int r16), (0, .ref (ad 8 0)), (1, .int a1), (2, .int a2), (3, .int a3)]) cx dX8_by_38 rfl (Nat.le_of_ble_eq_true rfl) rfl ?_
      refine G_iload (q := 42) cx dX8_by_40 rfl rfl ?_
      refine G_if_lt (q := 45) (t := 49) cx dX8_by_42 rfl (by decide) (fun c20 => ?_) (fun c20 => ?_)
      · refine G_iload (q := 51) cx dX8_by_49 rfl rfl ?_
        refine G_goto (t := 58) cx dX8_by_51 (by decide) ?_
        exact G_iret cx rfl dX8_by_58 trivial
      refine G_iload_n (q := 46) cx dX8_by_45 rfl rfl ?_
      refine G_if_ne (q := 49) (t := 54) cx dX8_by_46 rfl (by decide) (fun c21 => ?_) (fun c21 => ?_)
      · refine G_aload_n (q := 55) cx dX8_by_54 rfl rfl ?_
        refine G_geti (q := 58) cx dX8_by_55 rfl cf_8 fl_RX8_108 (Nat.le_of_ble_eq_true rfl) rfl (Nat.le_of_ble_eq_true rfl) ?_
        exact G_iret cx rfl dX8_by_58 trivial
      · refine G_iload (q := 51) cx dX8_by_49 rfl rfl ?_
        refine G_goto (t := 58) cx dX8_by_51 (by decide) ?_
        exact G_iret cx rfl dX8_by_58 trivial
    · refine G_bipush (q := 30) (v := (-2 : Int32)) cx dX8_by_28 rfl (by decide) ?_
      exact G_iret cx rfl dX8_by_30 trivial
  · refine G_iconst (q := 19) (v := (-1 : Int32)) cx dX8_by_18 rfl (by decide) ?_
    exact G_iret cx rfl dX8_by_19 trivial
def F_X8_straightOf (S : St) (a1 : Int32) : Option (Int32 × St) :=
  bnd (F_X8_falls S (gI S 8 0 2) (gI S 8 0 5) a1) (fun r1 S2 =>
  if ((gI S 8 0 3) - r1) < 0 then (some ((-5 : Int32), S2))
  else (bnd (F_X8_safe S2) (fun r6 S7 =>
  if r6 ≤ ((gI S 8 0 3) - r1) then (bnd (F_X8_apart S7 (gI S7 8 0 2) (gI S7 8 0 5)) (fun r11 S12 =>
  some (r11 * ((10 : Int32) - a1), S12)))
  else (some ((-5 : Int32), S7)))))
set_option maxRecDepth 10000 in
theorem c_X8_straightOf (l : Launch) {D : va_G} {cy : Nat → ClassId} {ad : Nat → Nat → Nat} (hJ : wJ ad nM) (S : St) (a1 : Int32) : CT l yX8_straightOf cX8_straightOf 3 (some .int) 3 D cy ad nM toI okT [.ref (ad 8 0), .int a1] S (F_X8_straightOf S a1) := by
  refine CT.of RX8 (by decide) rfl hJ (Nat.le_of_ble_eq_true rfl) rfl ?_
  intro p e s m below meth c cx
  unfold F_X8_straightOf
  refine G_aload_n (q := 1) cx dX8_straightOf_0 rfl rfl ?_
  refine G_geti (q := 4) cx dX8_straightOf_1 rfl cf_8 fl_RX8_19 (Nat.le_of_ble_eq_true rfl) rfl (Nat.le_of_ble_eq_true rfl) ?_
  refine G_aload_n (q := 5) cx dX8_straightOf_4 rfl rfl ?_
  refine G_aload_n (q := 6) cx dX8_straightOf_5 rfl rfl ?_
  refine G_geti (q := 9) cx dX8_straightOf_6 rfl cf_8 fl_RX8_16 (Nat.le_of_ble_eq_true rfl) rfl (Nat.le_of_ble_eq_true rfl) ?_
  refine G_aload_n (q := 10) cx dX8_straightOf_9 rfl rfl ?_
  refine G_geti (q := 13) cx dX8_straightOf_10 rfl cf_8 fl_RX8_25 (Nat.le_of_ble_eq_true rfl) rfl (Nat.le_of_ble_eq_true rfl) ?_
  refine G_iload_n (q := 14) cx dX8_straightOf_13 rfl rfl ?_
  refine G_callV (q := 17) (d' := 1) (f := 8) (i := 0) (As := [.int (gI S 8 0 2), .int (gI S 8 0 5), .int a1]) (rest := [.int (gI S 8 0 3)]) (stk := fun r1 => [.int r1, .int (gI S 8 0 3)]) cx dX8_straightOf_14 rfl cf_8 (Nat.le_of_ble_eq_true rfl) ml_RX8_316 rfl rfl (Nat.le_of_ble_eq_true rfl) (Nat.le_of_ble_eq_true rfl) (Nat.le_of_ble_eq_true rfl) (c_X8_falls l hJ  _ (gI S 8 0 2) (gI S 8 0 5) a1) (fun _ => rfl) (fun r1 S2 h3 o4 => ?_)
  refine G_isub (q := 18) cx dX8_straightOf_17 rfl ?_
  refine G_istore_n (q := 19) (ls' := [(2, .int ((gI S 8 0 3) - r1)), (0, .ref (ad 8 0)), (1, .int a1)]) cx dX8_straightOf_18 rfl rfl (Nat.le_of_ble_eq_true rfl) rfl ?_
  refine G_iload_n (q := 20) cx dX8_straightOf_19 rfl rfl ?_
  refine G_if_lt (q := 23) (t := 31) cx dX8_straightOf_20 rfl (by decide) (fun c5 => ?_) (fun c5 => ?_)
  · refine G_bipush (q := 33) (v := (-5 : Int32)) cx dX8_straightOf_31 rfl (by decide) ?_
    refine G_goto (t := 53) cx dX8_straightOf_33 (by decide) ?_
    exact G_iret cx rfl dX8_straightOf_53 trivial
  refine G_iload_n (q := 24) cx dX8_straightOf_23 rfl rfl ?_
  refine G_aload_n (q := 25) cx dX8_straightOf_24 rfl rfl ?_
  refine G_callV (q := 28) (d' := 2) (f := 8) (i := 0) (As := []) (rest := [.int ((gI S 8 0 3) - r1)]) (stk := fun r6 => [.int r6, .int ((gI S 8 0 3) - r1)]) cx dX8_straightOf_25 rfl cf_8 (Nat.le_of_ble_eq_true rfl) ml_RX8_310 rfl rfl (Nat.le_of_ble_eq_true rfl) (Nat.le_of_ble_eq_true rfl) (Nat.le_of_ble_eq_true rfl) (c_X8_safe l hJ  _) (fun _ => rfl) (fun r6 S7 h8 o9 => ?_)
  refine G_icmp_ge (q := 31) (t := 36) cx dX8_straightOf_28 rfl (by decide) (fun c10 => ?_) (fun c10 => ?_)
  · refine G_aload_n (q := 37) cx dX8_straightOf_36 rfl rfl ?_
    refine G_aload_n (q := 38) cx dX8_straightOf_37 rfl rfl ?_
    refine G_geti (q := 41) cx dX8_straightOf_38 rfl cf_8 fl_RX8_16 (Nat.le_of_ble_eq_true rfl) rfl (Nat.le_of_ble_eq_true rfl) ?_
    refine G_aload_n (q := 42) cx dX8_straightOf_41 rfl rfl ?_
    refine G_geti (q := 45) cx dX8_straightOf_42 rfl cf_8 fl_RX8_25 (Nat.le_of_ble_eq_true rfl) rfl (Nat.le_of_ble_eq_true rfl) ?_
    refine G_callV (q := 48) (d' := 0) (f := 8) (i := 0) (As := [.int (gI S7 8 0 2), .int (gI S7 8 0 5)]) (rest := []) (stk := fun r11 => [.int r11]) cx dX8_straightOf_45 rfl cf_8 (Nat.le_of_ble_eq_true rfl) ml_RX8_313 rfl rfl (Nat.le_of_ble_eq_true rfl) (Nat.le_of_ble_eq_true rfl) (Nat.le_of_ble_eq_true rfl) (c_X8_apart l hJ  _ (gI S7 8 0 2) (gI S7 8 0 5)) (fun _ => rfl) (fun r11 S12 h13 o14 => ?_)
    refine G_bipush (q := 50) (v := (10 : Int32)) cx dX8_straightOf_48 rfl (by decide) ?_
    refine G_iload_n (q := 51) cx dX8_straightOf_50 rfl rfl ?_
    refine G_isub (q := 52) cx dX8_straightOf_51 rfl ?_
    refine G_imul (q := 53) cx dX8_straightOf_52 rfl ?_
    exact G_iret cx rfl dX8_straightOf_53 trivial
  · refine G_bipush (q := 33) (v := (-5 : Int32)) cx dX8_straightOf_31 rfl (by decide) ?_
    refine G_goto (t := 53) cx dX8_straightOf_33 (by decide) ?_
    exact G_iret cx rfl dX8_straightOf_53 trivial
def F_X8_straight (S : St) (a1 : Int32) : Option (Int32 × St) :=
  bnd (F_X8_isPace S a1) (fun r1 S2 =>
  if r1 = 0 then (some ((-2 : Int32), S2))
  else (bnd (F_X8_straightOf S2 a1) (fun r6 S7 =>
  some (r6, S7))))
set_option maxRecDepth 10000 in
theorem c_X8_straight (l : Launch) {D : va_G} {cy : Nat → ClassId} {ad : Nat → Nat → Nat} (hJ : wJ ad nM) (S : St) (a1 : Int32) : CT l yX8_straight cX8_straight 2 (some .int) 4 D cy ad nM toI okT [.ref (ad 8 0), .int a1] S (F_X8_straight S a1) := by
  refine CT.of RX8 (by decide) rfl hJ (Nat.le_of_ble_eq_true rfl) rfl ?_
  intro p e s m below meth c cx
  unfold F_X8_straight
  refine G_aload_n (q := 1) cx dX8_straight_0 rfl rfl ?_
  refine G_iload_n (q := 2) cx dX8_straight_1 rfl rfl ?_
  refine G_callV (q := 5) (d' := 1) (f := 8) (i := 0) (As := [.int a1]) (rest := []) (stk := fun r1 => [.int r1]) cx dX8_straight_2 rfl cf_8 (Nat.le_of_ble_eq_true rfl) ml_RX8_326 rfl rfl (Nat.le_of_ble_eq_true rfl) (Nat.le_of_ble_eq_true rfl) (Nat.le_of_ble_eq_true rfl) (c_X8_isPace l hJ  _ a1) (fun _ => rfl) (fun r1 S2 h3 o4 => ?_)
  refine G_if_eq (q := 8) (t := 16) cx dX8_straight_5 rfl (by decide) (fun c5 => ?_) (fun c5 => ?_)
  · refine G_bipush (q := 18) (v := (-2 : Int32)) cx dX8_straight_16 rfl (by decide) ?_
    exact G_iret cx rfl dX8_straight_18 trivial
  refine G_aload_n (q := 9) cx dX8_straight_8 rfl rfl ?_
  refine G_iload_n (q := 10) cx dX8_straight_9 rfl rfl ?_
  refine G_callV (q := 13) (d' := 3) (f := 8) (i := 0) (As := [.int a1]) (rest := []) (stk := fun r6 => [.int r6]) cx dX8_straight_10 rfl cf_8 (Nat.le_of_ble_eq_true rfl) ml_RX8_351 rfl rfl (Nat.le_of_ble_eq_true rfl) (Nat.le_of_ble_eq_true rfl) (Nat.le_of_ble_eq_true rfl) (c_X8_straightOf l hJ  _ a1) (fun _ => rfl) (fun r6 S7 h8 o9 => ?_)
  refine G_goto (t := 18) cx dX8_straight_13 (by decide) ?_
  exact G_iret cx rfl dX8_straight_18 trivial
def F_X8_takesBest (S : St) (a1 : Int32) (a2 : Int32) (a3 : Int32) : Option (Unit × St) :=
  if a3 < 0 then (some ((), S))
  else (if (gI S 8 0 35) < 0 then (some ((), (sI (sI (sI S 8 0 33 a1) 8 0 34 a2) 8 0 35 a3)))
  else (if a3 < (gI S 8 0 35) then (some ((), (sI (sI (sI S 8 0 33 a1) 8 0 34 a2) 8 0 35 a3)))
  else (some ((), S))))
set_option maxRecDepth 10000 in
theorem c_X8_takesBest (l : Launch) {D : va_G} {cy : Nat → ClassId} {ad : Nat → Nat → Nat} (hJ : wJ ad nM) (S : St) (a1 : Int32) (a2 : Int32) (a3 : Int32) : CT l yX8_takesBest cX8_takesBest 4 none 0 D cy ad nM toU okT [.ref (ad 8 0), .int a1, .int a2, .int a3] S (F_X8_takesBest S a1 a2 a3) := by
  refine CT.of RX8 (by decide) rfl hJ (Nat.le_of_ble_eq_true rfl) rfl ?_
  intro p e s m below meth c cx
  unfold F_X8_takesBest
  refine G_iload_n (q := 1) cx dX8_takesBest_0 rfl rfl ?_
  refine G_if_lt (q := 4) (t := 19) cx dX8_takesBest_1 rfl (by decide) (fun c1 => ?_) (fun c1 => ?_)
  · exact G_vret cx rfl dX8_takesBest_19 trivial
  refine G_aload_n (q := 5) cx dX8_takesBest_4 rfl rfl ?_
  refine G_geti (q := 8) cx dX8_takesBest_5 rfl cf_8 fl_RX8_117 (Nat.le_of_ble_eq_true rfl) rfl (Nat.le_of_ble_eq_true rfl) ?_
  refine G_if_lt (q := 11) (t := 20) cx dX8_takesBest_8 rfl (by decide) (fun c2 => ?_) (fun c2 => ?_)
  · refine G_aload_n (q := 21) cx dX8_takesBest_20 rfl rfl ?_
    refine G_iload_n (q := 22) cx dX8_takesBest_21 rfl rfl ?_
    refine G_puti (q := 25) cx dX8_takesBest_22 rfl cf_8 fl_RX8_111 (Nat.le_of_ble_eq_true rfl) rfl rfl rfl rfl rfl (Nat.le_of_ble_eq_true rfl) ?_
    refine G_aload_n (q := 26) cx dX8_takesBest_25 rfl rfl ?_
    refine G_iload_n (q := 27) cx dX8_takesBest_26 rfl rfl ?_
    refine G_puti (q := 30) cx dX8_takesBest_27 rfl cf_8 fl_RX8_114 (Nat.le_of_ble_eq_true rfl) rfl rfl rfl rfl rfl (Nat.le_of_ble_eq_true rfl) ?_
    refine G_aload_n (q := 31) cx dX8_takesBest_30 rfl rfl ?_
    refine G_iload_n (q := 32) cx dX8_takesBest_31 rfl rfl ?_
    refine G_puti (q := 35) cx dX8_takesBest_32 rfl cf_8 fl_RX8_117 (Nat.le_of_ble_eq_true rfl) rfl rfl rfl rfl rfl (Nat.le_of_ble_eq_true rfl) ?_
    exact G_vret cx rfl dX8_takesBest_35 trivial
  refine G_iload_n (q := 12) cx dX8_takesBest_11 rfl rfl ?_
  refine G_aload_n (q := 13) cx dX8_takesBest_12 rfl rfl ?_
  refine G_geti (q := 16) cx dX8_takesBest_13 rfl cf_8 fl_RX8_117 (Nat.le_of_ble_eq_true rfl) rfl (Nat.le_of_ble_eq_true rfl) ?_
  refine G_icmp_lt (q := 19) (t := 20) cx dX8_takesBest_16 rfl (by decide) (fun c3 => ?_) (fun c3 => ?_)
  · refine G_aload_n (q := 21) cx dX8_takesBest_20 rfl rfl ?_
    refine G_iload_n (q := 22) cx dX8_takesBest_21 rfl rfl ?_
    refine G_puti (q := 25) cx dX8_takesBest_22 rfl cf_8 fl_RX8_111 (Nat.le_of_ble_eq_true rfl) rfl rfl rfl rfl rfl (Nat.le_of_ble_eq_true rfl) ?_
    refine G_aload_n (q := 26) cx dX8_takesBest_25 rfl rfl ?_
    refine G_iload_n (q := 27) cx dX8_takesBest_26 rfl rfl ?_
    refine G_puti (q := 30) cx dX8_takesBest_27 rfl cf_8 fl_RX8_114 (Nat.le_of_ble_eq_true rfl) rfl rfl rfl rfl rfl (Nat.le_of_ble_eq_true rfl) ?_
    refine G_aload_n (q := 31) cx dX8_takesBest_30 rfl rfl ?_
    refine G_iload_n (q := 32) cx dX8_takesBest_31 rfl rfl ?_
    refine G_puti (q := 35) cx dX8_takesBest_32 rfl cf_8 fl_RX8_117 (Nat.le_of_ble_eq_true rfl) rfl rfl rfl rfl rfl (Nat.le_of_ble_eq_true rfl) ?_
    exact G_vret cx rfl dX8_takesBest_35 trivial
  · exact G_vret cx rfl dX8_takesBest_19 trivial
