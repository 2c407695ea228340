def F_J3_checkIndex_8e157 (S : St) (a0 : Int32) (a1 : Int32) : Option (Int32 × St) :=
  if a0 < 0 then none
  else (if a0 < a1 then (some (a0, S))
  else none)
set_option maxRecDepth 10000 in
theorem c_J3_checkIndex_8e157N (l : Launch) {D : va_G} {cy : Nat → ClassId} {ad : Nat → Nat → Nat} {k : Nat} (hJ : wJ ad (nX k)) (S : St) (a0 : Int32) (a1 : Int32) : CT l yJ3_checkIndex_8e157 cJ3_checkIndex_8e157 3 (some .int) 0 D cy ad (nX k) toI okT [.int a0, .int a1, .null] S (F_J3_checkIndex_8e157 S a0 a1) := by
  refine CT.of RJ3 (by decide) rfl hJ (Nat.le_of_ble_eq_true rfl) rfl ?_
  intro p e s m below meth c cx
  unfold F_J3_checkIndex_8e157
  refine G_iload_n (q := 1) cx dJ3_checkIndex_8e157_0 rfl rfl ?_
  refine G_if_lt (q := 4) (t := 9) cx dJ3_checkIndex_8e157_1 rfl (by decide) (fun c1 => ?_) (fun c1 => ?_)
  · exact G_none
  refine G_iload_n (q := 5) cx dJ3_checkIndex_8e157_4 rfl rfl ?_
  refine G_iload_n (q := 6) cx dJ3_checkIndex_8e157_5 rfl rfl ?_
  refine G_icmp_lt (q := 9) (t := 16) cx dJ3_checkIndex_8e157_6 rfl (by decide) (fun c2 => ?_) (fun c2 => ?_)
  · refine G_iload_n (q := 17) cx dJ3_checkIndex_8e157_16 rfl rfl ?_
    exact G_iret cx rfl dJ3_checkIndex_8e157_17 trivial
  · exact G_none
set_option maxRecDepth 10000 in
theorem c_J3_checkIndex_8e157R (l : Launch) {D : va_G} {cy : Nat → ClassId} {ad : Nat → Nat → Nat} {k : Nat} (hJ : wJ ad (nX k)) (S : St) (a0 : Int32) (a1 : Int32) (t0 : Nat) : CT l yJ3_checkIndex_8e157 cJ3_checkIndex_8e157 3 (some .int) 0 D cy ad (nX k) toI okT [.int a0, .int a1, .ref t0] S (F_J3_checkIndex_8e157 S a0 a1) := by
  refine CT.of RJ3 (by decide) rfl hJ (Nat.le_of_ble_eq_true rfl) rfl ?_
  intro p e s m below meth c cx
  unfold F_J3_checkIndex_8e157
  refine G_iload_n (q := 1) cx dJ3_checkIndex_8e157_0 rfl rfl ?_
  refine G_if_lt (q := 4) (t := 9) cx dJ3_checkIndex_8e157_1 rfl (by decide) (fun c1 => ?_) (fun c1 => ?_)
  · exact G_none
  refine G_iload_n (q := 5) cx dJ3_checkIndex_8e157_4 rfl rfl ?_
  refine G_iload_n (q := 6) cx dJ3_checkIndex_8e157_5 rfl rfl ?_
  refine G_icmp_lt (q := 9) (t := 16) cx dJ3_checkIndex_8e157_6 rfl (by decide) (fun c2 => ?_) (fun c2 => ?_)
  · refine G_iload_n (q := 17) cx dJ3_checkIndex_8e157_16 rfl rfl ?_
    exact G_iret cx rfl dJ3_checkIndex_8e157_17 trivial
  · exact G_none
def L_J7_fill_53178_5 (a0 : Nat) (a1 : Int32) (K_1 : Int32 → St → Option (Unit × St)) : Nat → Int32 → St → Option (Unit × St)
  | 0, _, _ => none
  | n + 1, x2_1, S_1 =>
    if (4 : Int32) ≤ x2_1 then (K_1 x2_1 S_1)
    else (if 0 ≤ x2_1 ∧ x2_1.toNatClampNeg < 4 then (L_J7_fill_53178_5 a0 a1 K_1 n (x2_1 + 1) (sI S_1 13 a0 x2_1.toNatClampNeg a1))
    else none)
def F_J7_fill_53178 (S : St) (a0 : Nat) (a1 : Int32) : Option (Unit × St) :=
  L_J7_fill_53178_5 a0 a1 
  (fun y2_1 T_1 => some ((), T_1)) 1000 (0 : Int32) S
set_option maxRecDepth 10000 in
theorem c_J7_fill_53178 (l : Launch) {D : va_G} {cy : Nat → ClassId} {ad : Nat → Nat → Nat} {k : Nat} (hJ : wJ ad (nX k)) (S : St) (a0 : Nat) (a1 : Int32) (h_a0 : a0 < 12) : CT l yJ7_fill_53178 cJ7_fill_53178 4 none 0 D cy ad (nX k) toU okT [.ref (ad 13 a0), .int a1] S (F_J7_fill_53178 S a0 a1) := by
  refine CT.of RJ7 (by decide) rfl hJ (Nat.le_of_ble_eq_true rfl) rfl ?_
  intro p e s m below meth c cx
  unfold F_J7_fill_53178
  refine G_iconst (q := 1) (v := (0 : Int32)) cx dJ7_fill_53178_0 rfl (by decide) ?_
  refine G_istore_n (q := 2) (ls' := [(2, .int (0 : Int32)), (0, .ref (ad 13 a0)), (1, .int a1)]) cx dJ7_fill_53178_1 rfl rfl (Nat.le_of_ble_eq_true rfl) rfl ?_
  refine G_aload_n (q := 3) cx dJ7_fill_53178_2 rfl rfl ?_
  refine G_alenI (q := 4) (v := (4 : Int32)) cx dJ7_fill_53178_3 rfl (by decide) rfl (show Int32.ofNat 4 = (4 : Int32) by decide) h_a0 ?_
  refine G_istore_n (q := 5) (ls' := [(3, .int (4 : Int32)), (2, .int (0 : Int32)), (0, .ref (ad 13 a0)), (1, .int a1)]) cx dJ7_fill_53178_4 rfl rfl (Nat.le_of_ble_eq_true rfl) rfl ?_
  have lp_1 : ∀ (K_1 : Int32 → St → Option (Unit × St)) (hK_1 : ∀ (y2_1 : Int32) (T_1 : St), TG p l e 0 s m ([.ref (ad 13 a0), .int a1] : List Value).toArray below meth c D cy ad (nX k) toU okT T_1 20 [(2, .int y2_1), (3, .int (4 : Int32)), (0, .ref (ad 13 a0)), (1, .int a1)] [] (K_1 y2_1 T_1)), ∀ (n_1 : Nat) (x2_1 : Int32) (S_1 : St), TG p l e 0 s m ([.ref (ad 13 a0), .int a1] : List Value).toArray below meth c D cy ad (nX k) toU okT S_1 5 [(2, .int x2_1), (3, .int (4 : Int32)), (0, .ref (ad 13 a0)), (1, .int a1)] [] (L_J7_fill_53178_5 a0 a1 K_1 n_1 x2_1 S_1) := by
    intro K_1 hK_1 n_1
    induction n_1 with
    | zero => intros; exact G_none
    | succ n_1 ih_1 =>
      intro x2_1 S_1
      rw [L_J7_fill_53178_5.eq_2]
      refine G_iload_n (q := 6) cx dJ7_fill_53178_5 rfl rfl ?_
      refine G_iload_n (q := 7) cx dJ7_fill_53178_6 rfl rfl ?_
      refine G_icmp_ge (q := 10) (t := 20) cx dJ7_fill_53178_7 rfl (by decide) (fun c2 => ?_) (fun c2 => ?_)
      · exact G_loc [0, 1, 2, 3] rfl (hK_1 x2_1 S_1)
      refine G_aload_n (q := 11) cx dJ7_fill_53178_10 rfl rfl ?_
      refine G_iload_n (q := 12) cx dJ7_fill_53178_11 rfl rfl ?_
      refine G_iload_n (q := 13) cx dJ7_fill_53178_12 rfl rfl ?_
      refine G_iast (q := 14) cx dJ7_fill_53178_13 rfl (by decide) rfl rfl h_a0 (fun g3 g4 => ?_)
      refine G_iinc (q := 17) (j := 0) (v := x2_1 + 1) (ls' := [(2, .int (x2_1 + 1)), (3, .int (4 : Int32)), (0, .ref (ad 13 a0)), (1, .int a1)]) cx dJ7_fill_53178_14 rfl rfl rfl (Nat.le_of_ble_eq_true rfl) rfl ?_
      refine G_goto (t := 5) cx dJ7_fill_53178_17 (by decide) ?_
      exact G_loc [0, 1, 2, 3] rfl (ih_1 (x2_1 + 1) (sI S_1 13 a0 x2_1.toNatClampNeg a1))
  refine G_loc [1, 0, 2, 3] rfl (lp_1 _ (fun y2_1 T_1 => ?_) 1000 (0 : Int32) S)
  exact G_vret cx rfl dJ7_fill_53178_20 trivial
def L_J7_fill_d0a16_6 (a0 : Nat) (a1 : Int64) (K_1 : Int32 → St → Option (Unit × St)) : Nat → Int32 → St → Option (Unit × St)
  | 0, _, _ => none
  | n + 1, x3_1, S_1 =>
    if (60 : Int32) ≤ x3_1 then (K_1 x3_1 S_1)
    else (if 0 ≤ x3_1 ∧ x3_1.toNatClampNeg < 60 then (L_J7_fill_d0a16_6 a0 a1 K_1 n (x3_1 + 1) (sJ S_1 18 a0 x3_1.toNatClampNeg a1))
    else none)
def F_J7_fill_d0a16 (S : St) (a0 : Nat) (a1 : Int64) : Option (Unit × St) :=
  L_J7_fill_d0a16_6 a0 a1 
  (fun y3_1 T_1 => some ((), T_1)) 1000 (0 : Int32) S
set_option maxRecDepth 10000 in
theorem c_J7_fill_d0a16 (l : Launch) {D : va_G} {cy : Nat → ClassId} {ad : Nat → Nat → Nat} {k : Nat} (hJ : wJ ad (nX k)) (S : St) (a0 : Nat) (a1 : Int64) (h_a0 : a0 < 6) : CT l yJ7_fill_d0a16 cJ7_fill_d0a16 5 none 0 D cy ad (nX k) toU okT [.ref (ad 18 a0), .long a1] S (F_J7_fill_d0a16 S a0 a1) := by
  refine CT.of RJ7 (by decide) rfl hJ (Nat.le_of_ble_eq_true rfl) rfl ?_
  intro p e s m below meth c cx
  unfold F_J7_fill_d0a16
  refine G_iconst (q := 1) (v := (0 : Int32)) cx dJ7_fill_d0a16_0 rfl (by decide) ?_
  refine G_istore_n (q := 2) (ls' := [(3, .int (0 : Int32)), (0, .ref (ad 18 a0)), (1, .long a1)]) cx dJ7_fill_d0a16_1 rfl rfl (Nat.le_of_ble_eq_true rfl) rfl ?_
  refine G_aload_n (q := 3) cx dJ7_fill_d0a16_2 rfl rfl ?_
  refine G_alenJ (v := (60 : Int32)) (q := 4) cx dJ7_fill_d0a16_3 rfl (by decide) rfl (show Int32.ofNat 60 = (60 : Int32) by decide) h_a0 ?_
  refine G_istore (q := 6) (ls' := [(4, .int (60 : Int32)), (3, .int (0 : Int32)), (0, .ref (ad 18 a0)), (1, .long a1)]) cx dJ7_fill_d0a16_4 rfl (Nat.le_of_ble_eq_true rfl) rfl ?_
  have lp_1 : ∀ (K_1 : Int32 → St → Option (Unit × St)) (hK_1 : ∀ (y3_1 : Int32) (T_1 : St), TG p l e 0 s m ([.ref (ad 18 a0), .long a1] : List Value).toArray below meth c D cy ad (nX k) toU okT T_1 22 [(3, .int y3_1), (4, .int (60 : Int32)), (0, .ref (ad 18 a0)), (1, .long a1)] [] (K_1 y3_1 T_1)), ∀ (n_1 : Nat) (x3_1 : Int32) (S_1 : St), TG p l e 0 s m ([.ref (ad 18 a0), .long a1] : List Value).toArray below meth c D cy ad (nX k) toU okT S_1 6 [(3, .int x3_1), (4, .int (60 : Int32)), (0, .ref (ad 18 a0)), (1, .long a1)] [] (L_J7_fill_d0a16_6 a0 a1 K_1 n_1 x3_1 S_1) := by
    intro K_1 hK_1 n_1
    induction n_1 with
    | zero => intros; exact G_none
    | succ n_1 ih_1 =>
      intro x3_1 S_1
      rw [L_J7_fill_d0a16_6.eq_2]
      refine G_iload_n (q := 7) cx dJ7_fill_d0a16_6 rfl rfl ?_
      refine G_iload (q := 9) cx dJ7_fill_d0a16_7 rfl rfl ?_
      refine G_icmp_ge (q := 12) (t := 22) cx dJ7_fill_d0a16_9 rfl (by decide) (fun c2 => ?_) (fun c2 => ?_)
      · exact G_loc [0, 1, 2, 3] rfl (hK_1 x3_1 S_1)
      refine G_aload_n (q := 13) cx dJ7_fill_d0a16_12 rfl rfl ?_
      refine G_iload_n (q := 14) cx dJ7_fill_d0a16_13 rfl rfl ?_
      refine G_lload_n (q := 15) cx dJ7_fill_d0a16_14 rfl rfl ?_
      refine G_last (q := 16) cx dJ7_fill_d0a16_15 rfl (by decide) rfl rfl h_a0 (fun g3 g4 => ?_)
      refine G_iinc (q := 19) (j := 0) (v := x3_1 + 1) (ls' := [(3, .int (x3_1 + 1)), (4, .int (60 : Int32)), (0, .ref (ad 18 a0)), (1, .long a1)]) cx dJ7_fill_d0a16_16 rfl rfl rfl (Nat.le_of_ble_eq_true rfl) rfl ?_
      refine G_goto (t := 6) cx dJ7_fill_d0a16_19 (by decide) ?_
      exact G_loc [0, 1, 2, 3] rfl (ih_1 (x3_1 + 1) (sJ S_1 18 a0 x3_1.toNatClampNeg a1))
  refine G_loc [1, 0, 2, 3] rfl (lp_1 _ (fun y3_1 T_1 => ?_) 1000 (0 : Int32) S)
  exact G_vret cx rfl dJ7_fill_d0a16_22 trivial
def F_J0_coder_7d493 (S : St) (i0 : Nat) : Option (Int32 × St) :=
  some ((0 : Int32), S)
set_option maxRecDepth 10000 in
theorem c_J0_coder_7d493 (l : Launch) {D : va_G} {cy : Nat → ClassId} {ad : Nat → Nat → Nat} {k : Nat} (hJ : wJ ad (nX k)) (S : St) (i0 : Nat) (h_i0 : i0 < 6) : CT l yJ0_coder_7d493 cJ0_coder_7d493 1 (some .byte) 0 D cy ad (nX k) toI okT [.ref (ad 19 i0)] S (F_J0_coder_7d493 S i0) := by
  refine CT.of RJ0 (by decide) rfl hJ (Nat.le_of_ble_eq_true rfl) rfl ?_
  intro p e s m below meth c cx
  unfold F_J0_coder_7d493
  refine G_getsC (q := 3) cx dJ0_coder_7d493_0 rfl flj_38 ?_
  refine G_if_eq_n (q := 6) (t := 13) cx dJ0_coder_7d493_3 rfl (by decide) (by decide) ?_
  refine G_aload_n (q := 7) cx dJ0_coder_7d493_6 rfl rfl ?_
  refine G_getSc (q := 10) cx dJ0_coder_7d493_7 rfl flj_15 h_i0 ?_
  refine G_goto (t := 14) cx dJ0_coder_7d493_10 (by decide) ?_
  exact G_zret (ty := .byte) cx rfl dJ0_coder_7d493_14 trivial rfl
def F_J0_isLatin1_aae02 (S : St) (i0 : Nat) : Option (Int32 × St) :=
  some ((1 : Int32), S)
set_option maxRecDepth 10000 in
theorem c_J0_isLatin1_aae02 (l : Launch) {D : va_G} {cy : Nat → ClassId} {ad : Nat → Nat → Nat} {k : Nat} (hJ : wJ ad (nX k)) (S : St) (i0 : Nat) (h_i0 : i0 < 6) : CT l yJ0_isLatin1_aae02 cJ0_isLatin1_aae02 1 (some .boolean) 0 D cy ad (nX k) toI okZ [.ref (ad 19 i0)] S (F_J0_isLatin1_aae02 S i0) := by
  refine CT.of RJ0 (by decide) rfl hJ (Nat.le_of_ble_eq_true rfl) rfl ?_
  intro p e s m below meth c cx
  unfold F_J0_isLatin1_aae02
  refine G_getsC (q := 3) cx dJ0_isLatin1_aae02_0 rfl flj_38 ?_
  refine G_if_eq_n (q := 6) (t := 17) cx dJ0_isLatin1_aae02_3 rfl (by decide) (by decide) ?_
  refine G_aload_n (q := 7) cx dJ0_isLatin1_aae02_6 rfl rfl ?_
  refine G_getSc (q := 10) cx dJ0_isLatin1_aae02_7 rfl flj_15 h_i0 ?_
  refine G_if_ne_n (q := 13) (t := 17) cx dJ0_isLatin1_aae02_10 rfl (by decide) (by decide) ?_
  refine G_iconst (q := 14) (v := (1 : Int32)) cx dJ0_isLatin1_aae02_13 rfl (by decide) ?_
  refine G_goto (t := 18) cx dJ0_isLatin1_aae02_14 (by decide) ?_
  exact G_zret (ty := .boolean) cx rfl dJ0_isLatin1_aae02_18 rfl rfl
def F_J0_length_8abf5 (S : St) (i0 : Nat) : Option (Int32 × St) :=
  bnd (F_J0_coder_7d493 S i0) (fun r1 S2 =>
  some ((Int32.ofNat (lenK.getD i0 0)) >>> (r1 &&& 31), S2))
set_option maxRecDepth 10000 in
theorem c_J0_length_8abf5 (l : Launch) {D : va_G} {cy : Nat → ClassId} {ad : Nat → Nat → Nat} {k : Nat} (hJ : wJ ad (nX k)) (S : St) (i0 : Nat) (h_i0 : i0 < 6) : CT l yJ0_length_8abf5 cJ0_length_8abf5 1 (some .int) 1 D cy ad (nX k) toI okT [.ref (ad 19 i0)] S (F_J0_length_8abf5 S i0) := by
  refine CT.of RJ0 (by decide) rfl hJ (Nat.le_of_ble_eq_true rfl) rfl ?_
  intro p e s m below meth c cx
  unfold F_J0_length_8abf5
  refine G_aload_n (q := 1) cx dJ0_length_8abf5_0 rfl rfl ?_
  refine G_getSv (q := 4) cx dJ0_length_8abf5_1 rfl flj_9 h_i0 ?_
  refine G_alenS (q := 5) cx dJ0_length_8abf5_4 rfl h_i0 ?_
  refine G_aload_n (q := 6) cx dJ0_length_8abf5_5 rfl rfl ?_
  refine G_callVS (q := 9) (d' := 0) (i := i0) (As := []) (rest := [.int (Int32.ofNat (lenK.getD i0 0))]) (stk := fun r1 => [.int r1, .int (Int32.ofNat (lenK.getD i0 0))]) cx dJ0_length_8abf5_6 rfl h_i0 ml_RJ0_335 rfl rfl (Nat.le_of_ble_eq_true rfl) (Nat.le_of_ble_eq_true rfl) (Nat.le_of_ble_eq_true rfl) (c_J0_coder_7d493 l hJ _ i0 h_i0) (fun _ => rfl) (fun r1 S2 h3 o4 => ?_)
  refine G_ishr (q := 10) cx dJ0_length_8abf5_9 rfl ?_
  exact G_iret cx rfl dJ0_length_8abf5_10 trivial
def F_J1_canEncode_9a6ad (S : St) (a0 : Int32) : Option (Int32 × St) :=
  if a0 < 0 then (some ((0 : Int32), S))
  else (if (255 : Int32) < a0 then (some ((0 : Int32), S))
  else (some ((1 : Int32), S)))
set_option maxRecDepth 10000 in
theorem c_J1_canEncode_9a6ad (l : Launch) {D : va_G} {cy : Nat → ClassId} {ad : Nat → Nat → Nat} {k : Nat} (hJ : wJ ad (nX k)) (S : St) (a0 : Int32) : CT l yJ1_canEncode_9a6ad cJ1_canEncode_9a6ad 1 (some .boolean) 0 D cy ad (nX k) toI okZ [.int a0] S (F_J1_canEncode_9a6ad S a0) := by
  refine CT.of RJ1 (by decide) rfl hJ (Nat.le_of_ble_eq_true rfl) rfl ?_
  intro p e s m below meth c cx
  unfold F_J1_canEncode_9a6ad
  refine G_iload_n (q := 1) cx dJ1_canEncode_9a6ad_0 rfl rfl ?_
  refine G_if_lt (q := 4) (t := 15) cx dJ1_canEncode_9a6ad_1 rfl (by decide) (fun c1 => ?_) (fun c1 => ?_)
  · refine G_iconst (q := 16) (v := (0 : Int32)) cx dJ1_canEncode_9a6ad_15 rfl (by decide) ?_
    exact G_zret (ty := .boolean) cx rfl dJ1_canEncode_9a6ad_16 rfl rfl
  refine G_iload_n (q := 5) cx dJ1_canEncode_9a6ad_4 rfl rfl ?_
  refine G_sipush (q := 8) (v := (255 : Int32)) cx dJ1_canEncode_9a6ad_5 rfl (by decide) ?_
  refine G_icmp_gt (q := 11) (t := 15) cx dJ1_canEncode_9a6ad_8 rfl (by decide) (fun c2 => ?_) (fun c2 => ?_)
  · refine G_iconst (q := 16) (v := (0 : Int32)) cx dJ1_canEncode_9a6ad_15 rfl (by decide) ?_
    exact G_zret (ty := .boolean) cx rfl dJ1_canEncode_9a6ad_16 rfl rfl
  · refine G_iconst (q := 12) (v := (1 : Int32)) cx dJ1_canEncode_9a6ad_11 rfl (by decide) ?_
    refine G_goto (t := 16) cx dJ1_canEncode_9a6ad_12 (by decide) ?_
    exact G_zret (ty := .boolean) cx rfl dJ1_canEncode_9a6ad_16 rfl rfl
def L_J1_indexOfChar_4cfef_7 (a0 : Nat) (a1 : Int32) (a3 : Int32) (K_1 : Int32 → St → Option (Int32 × St)) : Nat → Int32 → St → Option (Int32 × St)
  | 0, _, _ => none
  | n + 1, x5_1, S_1 =>
    if a3 ≤ x5_1 then (K_1 x5_1 S_1)
    else (if 0 ≤ x5_1 ∧ x5_1.toNatClampNeg < lenK.getD a0 0 then (if ((bytK.getD a0 []).getD x5_1.toNatClampNeg 0) = a1.toInt8.toInt32 then (some (x5_1, S_1))
    else (L_J1_indexOfChar_4cfef_7 a0 a1 a3 K_1 n (x5_1 + 1) S_1))
    else none)
def F_J1_indexOfChar_4cfef (S : St) (a0 : Nat) (a1 : Int32) (a2 : Int32) (a3 : Int32) : Option (Int32 × St) :=
  L_J1_indexOfChar_4cfef_7 a0 a1 a3 
  (fun y5_1 T_1 => some ((-1 : Int32), T_1)) 1000 a2 S
set_option maxRecDepth 10000 in
theorem c_J1_indexOfChar_4cfef (l : Launch) {D : va_G} {cy : Nat → ClassId} {ad : Nat → Nat → Nat} {k : Nat} (hJ : wJ ad (nX k)) (S : St) (a0 : Nat) (a1 : Int32) (a2 : Int32) (a3 : Int32) (h_a0 : a0 < 6) : CT l yJ1_indexOfChar_4cfef cJ1_indexOfChar_4cfef 6 (some .int) 0 D cy ad (nX k) toI okT [.ref (ad 20 a0), .int a1, .int a2, .int a3] S (F_J1_indexOfChar_4cfef S a0 a1 a2 a3) := by
  refine CT.of RJ1 (by decide) rfl hJ (Nat.le_of_ble_eq_true rfl) rfl ?_
  intro p e s m below meth c cx
  unfold F_J1_indexOfChar_4cfef
  refine G_iload_n (q := 1) cx dJ1_indexOfChar_4cfef_0 rfl rfl ?_
  refine G_i2b (q := 2) cx dJ1_indexOfChar_4cfef_1 rfl ?_
  refine G_istore (q := 4) (ls' := [(4, .int a1.toInt8.toInt32), (0, .ref (ad 20 a0)), (1, .int a1), (2, .int a2), (3, .int a3)]) cx dJ1_indexOfChar_4cfef_2 rfl (Nat.le_of_ble_eq_true rfl) rfl ?_
  refine G_iload_n (q := 5) cx dJ1_indexOfChar_4cfef_4 rfl rfl ?_
  refine G_istore (q := 7) (ls' := [(5, .int a2), (4, .int a1.toInt8.toInt32), (0, .ref (ad 20 a0)), (1, .int a1), (2, .int a2), (3, .int a3)]) cx dJ1_indexOfChar_4cfef_5 rfl (Nat.le_of_ble_eq_true rfl) rfl ?_
  have lp_1 : ∀ (K_1 : Int32 → St → Option (Int32 × St)) (hK_1 : ∀ (y5_1 : Int32) (T_1 : St), TG p l e 0 s m ([.ref (ad 20 a0), .int a1, .int a2, .int a3] : List Value).toArray below meth c D cy ad (nX k) toI okT T_1 31 [(5, .int y5_1), (4, .int a1.toInt8.toInt32), (0, .ref (ad 20 a0)), (1, .int a1), (2, .int a2), (3, .int a3)] [] (K_1 y5_1 T_1)), ∀ (n_1 : Nat) (x5_1 : Int32) (S_1 : St), TG p l e 0 s m ([.ref (ad 20 a0), .int a1, .int a2, .int a3] : List Value).toArray below meth c D cy ad (nX k) toI okT S_1 7 [(5, .int x5_1), (4, .int a1.toInt8.toInt32), (0, .ref (ad 20 a0)), (1, .int a1), (2, .int a2), (3, .int a3)] [] (L_J1_indexOfChar_4cfef_7 a0 a1 a3 K_1 n_1 x5_1 S_1) := by
    intro K_1 hK_1 n_1
    induction n_1 with
    | zero => intros; exact G_none
    | succ n_1 ih_1 =>
      intro x5_1 S_1
      rw [L_J1_indexOfChar_4cfef_7.eq_2]
      refine G_iload (q := 9) cx dJ1_indexOfChar_4cfef_7 rfl rfl ?_
      refine G_iload_n (q := 10) cx dJ1_indexOfChar_4cfef_9 rfl rfl ?_
      refine G_icmp_ge (q := 13) (t := 31) cx dJ1_indexOfChar_4cfef_10 rfl (by decide) (fun c2 => ?_) (fun c2 => ?_)
      · exact G_loc [0, 1, 2, 3, 4, 5] rfl (hK_1 x5_1 S_1)
      refine G_aload_n (q := 14) cx dJ1_indexOfChar_4cfef_13 rfl rfl ?_
      refine G_iload (q := 16) cx dJ1_indexOfChar_4cfef_14 rfl rfl ?_
      refine G_baldS (q := 17) cx dJ1_indexOfChar_4cfef_16 rfl h_a0 (fun g3 g4 => ?_)
      refine G_iload (q := 19) cx dJ1_indexOfChar_4cfef_17 rfl rfl ?_
      refine G_icmp_ne (q := 22) (t := 25) cx dJ1_indexOfChar_4cfef_19 rfl (by decide) (fun c5 => ?_) (fun c5 => ?_)
      · refine G_iinc (q := 28) (j := 0) (v := x5_1 + 1) (ls' := [(5, .int (x5_1 + 1)), (4, .int a1.toInt8.toInt32), (0, .ref (ad 20 a0)), (1, .int a1), (2, .int a2), (3, .int a3)]) cx dJ1_indexOfChar_4cfef_25 rfl rfl rfl (Nat.le_of_ble_eq_true rfl) rfl ?_
        refine G_goto (t := 7) cx dJ1_indexOfChar_4cfef_28 (by decide) ?_
        exact G_loc [0, 1, 2, 3, 4, 5] rfl (ih_1 (x5_1 + 1) S_1)
      · refine G_iload (q := 24) cx dJ1_indexOfChar_4cfef_22 rfl rfl ?_
        exact G_iret cx rfl dJ1_indexOfChar_4cfef_24 trivial
  refine G_loc [0, 1, 2, 3, 4, 5] rfl (lp_1 _ (fun y5_1 T_1 => ?_) 1000 a2 S)
  refine G_iconst (q := 32) (v := (-1 : Int32)) cx dJ1_indexOfChar_4cfef_31 rfl (by decide) ?_
  exact G_iret cx rfl dJ1_indexOfChar_4cfef_32 trivial
def F_J1_indexOf_4cfef (S : St) (a0 : Nat) (a1 : Int32) (a2 : Int32) (a3 : Int32) : Option (Int32 × St) :=
  bnd (F_J1_canEncode_9a6ad S a1) (fun r1 S2 =>
  if r1 = 0 then (some ((-1 : Int32), S2))
  else (if (if a2 < (0 : Int32) then (0 : Int32) else a2) < (if (Int32.ofNat (lenK.getD a0 0)) < a3 then (Int32.ofNat (lenK.getD a0 0)) else a3) then (bnd (F_J1_indexOfChar_4cfef S2 a0 a1 (if a2 < (0 : Int32) then (0 : Int32) else a2) (if (Int32.ofNat (lenK.getD a0 0)) < a3 then (Int32.ofNat (lenK.getD a0 0)) else a3)) (fun r7 S8 =>
  some (r7, S8)))
  else (some ((-1 : Int32), S2))))
set_option maxRecDepth 10000 in
theorem c_J1_indexOf_4cfef (l : Launch) {D : va_G} {cy : Nat → ClassId} {ad : Nat → Nat → Nat} {k : Nat} (hJ : wJ ad (nX k)) (S : St) (a0 : Nat) (a1 : Int32) (a2 : Int32) (a3 : Int32) (h_a0 : a0 < 6) : CT l yJ1_indexOf_4cfef cJ1_indexOf_4cfef 4 (some .int) 1 D cy ad (nX k) toI okT [.ref (ad 20 a0), .int a1, .int a2, .int a3] S (F_J1_indexOf_4cfef S a0 a1 a2 a3) := by
  refine CT.of RJ1 (by decide) rfl hJ (Nat.le_of_ble_eq_true rfl) rfl ?_
  intro p e s m below meth c cx
  unfold F_J1_indexOf_4cfef
  refine G_iload_n (q := 1) cx dJ1_indexOf_4cfef_0 rfl rfl ?_
  refine G_callS (q := 4) (d' := 0) (As := [.int a1]) (rest := []) (stk := fun r1 => [.int r1]) cx dJ1_indexOf_4cfef_1 rfl ml_RJ1_88 rfl rfl (Nat.le_of_ble_eq_true rfl) (Nat.le_of_ble_eq_true rfl) (Nat.le_of_ble_eq_true rfl) (c_J1_canEncode_9a6ad l hJ _ a1) (fun _ => rfl) (fun r1 S2 h3 o4 => ?_)
  refine G_if_ne (q := 7) (t := 9) cx dJ1_indexOf_4cfef_4 rfl (by decide) (fun c5 => ?_) (fun c5 => ?_)
  · refine G_iload_n (q := 10) cx dJ1_indexOf_4cfef_9 rfl rfl ?_
    refine G_iconst (q := 11) (v := (0 : Int32)) cx dJ1_indexOf_4cfef_10 rfl (by decide) ?_
    refine G_mmax (q := 14) cx dJ1_indexOf_4cfef_11 rfl ml_RJ1_92 (Nat.le_of_ble_eq_true rfl) (Nat.le_of_ble_eq_true rfl) ?_
    refine G_istore_n (q := 15) (ls' := [(2, .int (if a2 < (0 : Int32) then (0 : Int32) else a2)), (0, .ref (ad 20 a0)), (1, .int a1), (3, .int a3)]) cx dJ1_indexOf_4cfef_14 rfl rfl (Nat.le_of_ble_eq_true rfl) rfl ?_
    refine G_iload_n (q := 16) cx dJ1_indexOf_4cfef_15 rfl rfl ?_
    refine G_aload_n (q := 17) cx dJ1_indexOf_4cfef_16 rfl rfl ?_
    refine G_alenS (q := 18) cx dJ1_indexOf_4cfef_17 rfl h_a0 ?_
    refine G_mmin (q := 21) cx dJ1_indexOf_4cfef_18 rfl ml_RJ1_38 (Nat.le_of_ble_eq_true rfl) (Nat.le_of_ble_eq_true rfl) ?_
    refine G_istore_n (q := 22) (ls' := [(3, .int (if (Int32.ofNat (lenK.getD a0 0)) < a3 then (Int32.ofNat (lenK.getD a0 0)) else a3)), (2, .int (if a2 < (0 : Int32) then (0 : Int32) else a2)), (0, .ref (ad 20 a0)), (1, .int a1)]) cx dJ1_indexOf_4cfef_21 rfl rfl (Nat.le_of_ble_eq_true rfl) rfl ?_
    refine G_iload_n (q := 23) cx dJ1_indexOf_4cfef_22 rfl rfl ?_
    refine G_iload_n (q := 24) cx dJ1_indexOf_4cfef_23 rfl rfl ?_
    refine G_icmp_lt (q := 27) (t := 29) cx dJ1_indexOf_4cfef_24 rfl (by decide) (fun c6 => ?_) (fun c6 => ?_)
    · refine G_aload_n (q := 30) cx dJ1_indexOf_4cfef_29 rfl rfl ?_
      refine G_iload_n (q := 31) cx dJ1_indexOf_4cfef_30 rfl rfl ?_
      refine G_iload_n (q := 32) cx dJ1_indexOf_4cfef_31 rfl rfl ?_
      refine G_iload_n (q := 33) cx dJ1_indexOf_4cfef_32 rfl rfl ?_
      refine G_callS (q := 36) (d' := 0) (As := [.ref (ad 20 a0), .int a1, .int (if a2 < (0 : Int32) then (0 : Int32) else a2), .int (if (Int32.ofNat (lenK.getD a0 0)) < a3 then (Int32.ofNat (lenK.getD a0 0)) else a3)]) (rest := []) (stk := fun r7 => [.int r7]) cx dJ1_indexOf_4cfef_33 rfl ml_RJ1_95 rfl rfl (Nat.le_of_ble_eq_true rfl) (Nat.le_of_ble_eq_true rfl) (Nat.le_of_ble_eq_true rfl) (c_J1_indexOfChar_4cfef l hJ _ a0 a1 (if a2 < (0 : Int32) then (0 : Int32) else a2) (if (Int32.ofNat (lenK.getD a0 0)) < a3 then (Int32.ofNat (lenK.getD a0 0)) else a3) h_a0) (fun _ => rfl) (fun r7 S8 h9 o10 => ?_)
      exact G_iret cx rfl dJ1_indexOf_4cfef_36 trivial
    · refine G_iconst (q := 28) (v := (-1 : Int32)) cx dJ1_indexOf_4cfef_27 rfl (by decide) ?_
      exact G_iret cx rfl dJ1_indexOf_4cfef_28 trivial
  · refine G_iconst (q := 8) (v := (-1 : Int32)) cx dJ1_indexOf_4cfef_7 rfl (by decide) ?_
    exact G_iret cx rfl dJ1_indexOf_4cfef_8 trivial
def F_J0_indexOf_7cf53 (S : St) (i0 : Nat) (a1 : Int32) (a2 : Int32) : Option (Int32 × St) :=
  bnd (F_J0_isLatin1_aae02 S i0) (fun r1 S2 =>
  if r1 = 0 then (bnd (F_J0_length_8abf5 S2 i0) (fun r6 S7 =>
  none))
  else (bnd (F_J0_length_8abf5 S2 i0) (fun r10 S11 =>
  bnd (F_J1_indexOf_4cfef S11 i0 a1 a2 r10) (fun r14 S15 =>
  some (r14, S15)))))
set_option maxRecDepth 10000 in
theorem c_J0_indexOf_7cf53 (l : Launch) {D : va_G} {cy : Nat → ClassId} {ad : Nat → Nat → Nat} {k : Nat} (hJ : wJ ad (nX k)) (S : St) (i0 : Nat) (a1 : Int32) (a2 : Int32) (h_i0 : i0 < 6) : CT l yJ0_indexOf_7cf53 cJ0_indexOf_7cf53 3 (some .int) 2 D cy ad (nX k) toI okT [.ref (ad 19 i0), .int a1, .int a2] S (F_J0_indexOf_7cf53 S i0 a1 a2) := by
  refine CT.of RJ0 (by decide) rfl hJ (Nat.le_of_ble_eq_true rfl) rfl ?_
  intro p e s m below meth c cx
  unfold F_J0_indexOf_7cf53
  refine G_aload_n (q := 1) cx dJ0_indexOf_7cf53_0 rfl rfl ?_
  refine G_callVS (q := 4) (d' := 0) (i := i0) (As := []) (rest := []) (stk := fun r1 => [.int r1]) cx dJ0_indexOf_7cf53_1 rfl h_i0 ml_RJ0_492 rfl rfl (Nat.le_of_ble_eq_true rfl) (Nat.le_of_ble_eq_true rfl) (Nat.le_of_ble_eq_true rfl) (c_J0_isLatin1_aae02 l hJ _ i0 h_i0) (fun _ => rfl) (fun r1 S2 h3 o4 => ?_)
  refine G_if_eq (q := 7) (t := 23) cx dJ0_indexOf_7cf53_4 rfl (by decide) (fun c5 => ?_) (fun c5 => ?_)
  · refine G_aload_n (q := 24) cx dJ0_indexOf_7cf53_23 rfl rfl ?_
    refine G_getSv (q := 27) cx dJ0_indexOf_7cf53_24 rfl flj_9 h_i0 ?_
    refine G_iload_n (q := 28) cx dJ0_indexOf_7cf53_27 rfl rfl ?_
    refine G_iload_n (q := 29) cx dJ0_indexOf_7cf53_28 rfl rfl ?_
    refine G_aload_n (q := 30) cx dJ0_indexOf_7cf53_29 rfl rfl ?_
    refine G_callVS (q := 33) (d' := 1) (i := i0) (As := []) (rest := [.int a2, .int a1, .ref (ad 20 i0)]) (stk := fun r6 => [.int r6, .int a2, .int a1, .ref (ad 20 i0)]) cx dJ0_indexOf_7cf53_30 rfl h_i0 ml_RJ0_505 rfl rfl (Nat.le_of_ble_eq_true rfl) (Nat.le_of_ble_eq_true rfl) (Nat.le_of_ble_eq_true rfl) (c_J0_length_8abf5 l hJ _ i0 h_i0) (fun _ => rfl) (fun r6 S7 h8 o9 => ?_)
    exact G_none
  refine G_aload_n (q := 8) cx dJ0_indexOf_7cf53_7 rfl rfl ?_
  refine G_getSv (q := 11) cx dJ0_indexOf_7cf53_8 rfl flj_9 h_i0 ?_
  refine G_iload_n (q := 12) cx dJ0_indexOf_7cf53_11 rfl rfl ?_
  refine G_iload_n (q := 13) cx dJ0_indexOf_7cf53_12 rfl rfl ?_
  refine G_aload_n (q := 14) cx dJ0_indexOf_7cf53_13 rfl rfl ?_
  refine G_callVS (q := 17) (d' := 1) (i := i0) (As := []) (rest := [.int a2, .int a1, .ref (ad 20 i0)]) (stk := fun r10 => [.int r10, .int a2, .int a1, .ref (ad 20 i0)]) cx dJ0_indexOf_7cf53_14 rfl h_i0 ml_RJ0_505 rfl rfl (Nat.le_of_ble_eq_true rfl) (Nat.le_of_ble_eq_true rfl) (Nat.le_of_ble_eq_true rfl) (c_J0_length_8abf5 l hJ _ i0 h_i0) (fun _ => rfl) (fun r10 S11 h12 o13 => ?_)
  refine G_callS (q := 20) (d' := 1) (As := [.ref (ad 20 i0), .int a1, .int a2, .int r10]) (rest := []) (stk := fun r14 => [.int r14]) cx dJ0_indexOf_7cf53_17 rfl ml_RJ0_637 rfl rfl (Nat.le_of_ble_eq_true rfl) (Nat.le_of_ble_eq_true rfl) (Nat.le_of_ble_eq_true rfl) (c_J1_indexOf_4cfef l hJ _ i0 a1 a2 r10 h_i0) (fun _ => rfl) (fun r14 S15 h16 o17 => ?_)
  refine G_goto (t := 36) cx dJ0_indexOf_7cf53_20 (by decide) ?_
  exact G_iret cx rfl dJ0_indexOf_7cf53_36 trivial
def F_J0_indexOf_0f7a4 (S : St) (i0 : Nat) (a1 : Int32) : Option (Int32 × St) :=
  bnd (F_J0_indexOf_7cf53 S i0 a1 (0 : Int32)) (fun r1 S2 =>
  some (r1, S2))
set_option maxRecDepth 10000 in
theorem c_J0_indexOf_0f7a4 (l : Launch) {D : va_G} {cy : Nat → ClassId} {ad : Nat → Nat → Nat} {k : Nat} (hJ : wJ ad (nX k)) (S : St) (i0 : Nat) (a1 : Int32) (h_i0 : i0 < 6) : CT l yJ0_indexOf_0f7a4 cJ0_indexOf_0f7a4 2 (some .int) 3 D cy ad (nX k) toI okT [.ref (ad 19 i0), .int a1] S (F_J0_indexOf_0f7a4 S i0 a1) := by
  refine CT.of RJ0 (by decide) rfl hJ (Nat.le_of_ble_eq_true rfl) rfl ?_
  intro p e s m below meth c cx
  unfold F_J0_indexOf_0f7a4
  refine G_aload_n (q := 1) cx dJ0_indexOf_0f7a4_0 rfl rfl ?_
  refine G_iload_n (q := 2) cx dJ0_indexOf_0f7a4_1 rfl rfl ?_
  refine G_iconst (q := 3) (v := (0 : Int32)) cx dJ0_indexOf_0f7a4_2 rfl (by decide) ?_
  refine G_callVS (q := 6) (d' := 2) (i := i0) (As := [.int a1, .int (0 : Int32)]) (rest := []) (stk := fun r1 => [.int r1]) cx dJ0_indexOf_0f7a4_3 rfl h_i0 ml_RJ0_633 rfl rfl (Nat.le_of_ble_eq_true rfl) (Nat.le_of_ble_eq_true rfl) (Nat.le_of_ble_eq_true rfl) (c_J0_indexOf_7cf53 l hJ _ i0 a1 (0 : Int32) h_i0) (fun _ => rfl) (fun r1 S2 h3 o4 => ?_)
  exact G_iret cx rfl dJ0_indexOf_0f7a4_6 trivial
def F_J0_checkIndex_df160 (S : St) (a0 : Int32) (a1 : Int32) : Option (Unit × St) :=
  bnd (F_J3_checkIndex_8e157 S a0 a1) (fun r1 S2 =>
  some ((), S2))
set_option maxRecDepth 10000 in
theorem c_J0_checkIndex_df160 (l : Launch) {D : va_G} {cy : Nat → ClassId} {ad : Nat → Nat → Nat} {k : Nat} (hJ : wJ ad (nX k)) (S : St) (a0 : Int32) (a1 : Int32) : CT l yJ0_checkIndex_df160 cJ0_checkIndex_df160 2 none 1 D cy ad (nX k) toU okT [.int a0, .int a1] S (F_J0_checkIndex_df160 S a0 a1) := by
  refine CT.of RJ0 (by decide) rfl hJ (Nat.le_of_ble_eq_true rfl) rfl ?_
  intro p e s m below meth c cx
  unfold F_J0_checkIndex_df160
  refine G_iload_n (q := 1) cx dJ0_checkIndex_df160_0 rfl rfl ?_
  refine G_iload_n (q := 2) cx dJ0_checkIndex_df160_1 rfl rfl ?_
  refine G_getsQ (q := 5) cx dJ0_checkIndex_df160_2 rfl flj_1053 ?_ (fun t9 => ?_)
  · refine G_callS (q := 8) (d' := 0) (As := [.int a0, .int a1, .null]) (rest := []) (stk := fun r1 => [.int r1]) cx dJ0_checkIndex_df160_5 rfl ml_RJ0_1059 rfl rfl (Nat.le_of_ble_eq_true rfl) (Nat.le_of_ble_eq_true rfl) (Nat.le_of_ble_eq_true rfl) (c_J3_checkIndex_8e157N l hJ _ a0 a1) (fun _ => rfl) (fun r1 S2 h3 o4 => ?_)
    refine G_pop (q := 9) cx dJ0_checkIndex_df160_8 rfl rfl ?_
    exact G_vret cx rfl dJ0_checkIndex_df160_9 trivial
  · refine G_callS (q := 8) (d' := 0) (As := [.int a0, .int a1, .ref t9]) (rest := []) (stk := fun r5 => [.int r5]) cx dJ0_checkIndex_df160_5 rfl ml_RJ0_1059 rfl rfl (Nat.le_of_ble_eq_true rfl) (Nat.le_of_ble_eq_true rfl) (Nat.le_of_ble_eq_true rfl) (c_J3_checkIndex_8e157R l hJ _ a0 a1 t9) (fun _ => rfl) (fun r5 S6 h7 o8 => ?_)
    refine G_pop (q := 9) cx dJ0_checkIndex_df160_8 rfl rfl ?_
    exact G_vret cx rfl dJ0_checkIndex_df160_9 trivial
def F_J1_charAt_3b067 (S : St) (a0 : Nat) (a1 : Int32) : Option (Int32 × St) :=
  bnd (F_J0_checkIndex_df160 S a1 (Int32.ofNat (lenK.getD a0 0))) (fun r1 S2 =>
  if 0 ≤ a1 ∧ a1.toNatClampNeg < lenK.getD a0 0 then (some (((((bytK.getD a0 []).getD a1.toNatClampNeg 0) &&& (255 : Int32)).toUInt32 % 65536).toInt32, S2))
  else none)
set_option maxRecDepth 10000 in
theorem c_J1_charAt_3b067 (l : Launch) {D : va_G} {cy : Nat → ClassId} {ad : Nat → Nat → Nat} {k : Nat} (hJ : wJ ad (nX k)) (S : St) (a0 : Nat) (a1 : Int32) (h_a0 : a0 < 6) : CT l yJ1_charAt_3b067 cJ1_charAt_3b067 2 (some .char) 2 D cy ad (nX k) toI okC [.ref (ad 20 a0), .int a1] S (F_J1_charAt_3b067 S a0 a1) := by
  refine CT.of RJ1 (by decide) rfl hJ (Nat.le_of_ble_eq_true rfl) rfl ?_
  intro p e s m below meth c cx
  unfold F_J1_charAt_3b067
  refine G_iload_n (q := 1) cx dJ1_charAt_3b067_0 rfl rfl ?_
  refine G_aload_n (q := 2) cx dJ1_charAt_3b067_1 rfl rfl ?_
  refine G_alenS (q := 3) cx dJ1_charAt_3b067_2 rfl h_a0 ?_
  refine G_callS (q := 6) (d' := 1) (As := [.int a1, .int (Int32.ofNat (lenK.getD a0 0))]) (rest := []) (stk := fun _ => []) cx dJ1_charAt_3b067_3 rfl ml_RJ1_9 rfl rfl (Nat.le_of_ble_eq_true rfl) (Nat.le_of_ble_eq_true rfl) (Nat.le_of_ble_eq_true rfl) (c_J0_checkIndex_df160 l hJ _ a1 (Int32.ofNat (lenK.getD a0 0))) (fun _ => rfl) (fun r1 S2 h3 o4 => ?_)
  refine G_aload_n (q := 7) cx dJ1_charAt_3b067_6 rfl rfl ?_
  refine G_iload_n (q := 8) cx dJ1_charAt_3b067_7 rfl rfl ?_
  refine G_baldS (q := 9) cx dJ1_charAt_3b067_8 rfl h_a0 (fun g5 g6 => ?_)
  refine G_sipush (q := 12) (v := (255 : Int32)) cx dJ1_charAt_3b067_9 rfl (by decide) ?_
  refine G_iand (q := 13) cx dJ1_charAt_3b067_12 rfl ?_
  refine G_i2c (q := 14) cx dJ1_charAt_3b067_13 rfl ?_
  exact G_zret (ty := .char) cx rfl dJ1_charAt_3b067_14 (pk_nc _) (pk_nc _)
def F_J0_charAt_5068e (S : St) (i0 : Nat) (a1 : Int32) : Option (Int32 × St) :=
  bnd (F_J0_isLatin1_aae02 S i0) (fun r1 S2 =>
  if r1 = 0 then none
  else (bnd (F_J1_charAt_3b067 S2 i0 a1) (fun r6 S7 =>
  some (r6, S7))))
set_option maxRecDepth 10000 in
theorem c_J0_charAt_5068e (l : Launch) {D : va_G} {cy : Nat → ClassId} {ad : Nat → Nat → Nat} {k : Nat} (hJ : wJ ad (nX k)) (S : St) (i0 : Nat) (a1 : Int32) (h_i0 : i0 < 6) : CT l yJ0_charAt_5068e cJ0_charAt_5068e 2 (some .char) 3 D cy ad (nX k) toI okC [.ref (ad 19 i0), .int a1] S (F_J0_charAt_5068e S i0 a1) := by
  refine CT.of RJ0 (by decide) rfl hJ (Nat.le_of_ble_eq_true rfl) rfl ?_
  intro p e s m below meth c cx
  unfold F_J0_charAt_5068e
  refine G_aload_n (q := 1) cx dJ0_charAt_5068e_0 rfl rfl ?_
  refine G_callVS (q := 4) (d' := 0) (i := i0) (As := []) (rest := []) (stk := fun r1 => [.int r1]) cx dJ0_charAt_5068e_1 rfl h_i0 ml_RJ0_492 rfl rfl (Nat.le_of_ble_eq_true rfl) (Nat.le_of_ble_eq_true rfl) (Nat.le_of_ble_eq_true rfl) (c_J0_isLatin1_aae02 l hJ _ i0 h_i0) (fun _ => rfl) (fun r1 S2 h3 o4 => ?_)
  refine G_if_eq (q := 7) (t := 16) cx dJ0_charAt_5068e_4 rfl (by decide) (fun c5 => ?_) (fun c5 => ?_)
  · refine G_aload_n (q := 17) cx dJ0_charAt_5068e_16 rfl rfl ?_
    refine G_getSv (q := 20) cx dJ0_charAt_5068e_17 rfl flj_9 h_i0 ?_
    refine G_iload_n (q := 21) cx dJ0_charAt_5068e_20 rfl rfl ?_
    exact G_none
  refine G_aload_n (q := 8) cx dJ0_charAt_5068e_7 rfl rfl ?_
  refine G_getSv (q := 11) cx dJ0_charAt_5068e_8 rfl flj_9 h_i0 ?_
  refine G_iload_n (q := 12) cx dJ0_charAt_5068e_11 rfl rfl ?_
  refine G_callS (q := 15) (d' := 2) (As := [.ref (ad 20 i0), .int a1]) (rest := []) (stk := fun r6 => [.int r6]) cx dJ0_charAt_5068e_12 rfl ml_RJ0_495 rfl rfl (Nat.le_of_ble_eq_true rfl) (Nat.le_of_ble_eq_true rfl) (Nat.le_of_ble_eq_true rfl) (c_J1_charAt_3b067 l hJ _ i0 a1 h_i0) (fun _ => rfl) (fun r6 S7 h8 o9 => ?_)
  exact G_zret (ty := .char) cx rfl dJ0_charAt_5068e_15 o9 o9
def F_X7_begins (S : St) (a1 : Int32) : Option (Unit × St) :=
  if (20 : Int32) ≤ (gI S 7 0 9) then (some ((), (sI S 7 0 9 ((gI S 7 0 9) + (1 : Int32)))))
  else (if 0 ≤ (gI S 7 0 9) ∧ (gI S 7 0 9).toNatClampNeg < 20 then (some ((), (sI (sI S 10 0 (gI S 7 0 9).toNatClampNeg a1) 7 0 9 ((gI (sI S 10 0 (gI S 7 0 9).toNatClampNeg a1) 7 0 9) + (1 : Int32)))))
  else none)
set_option maxRecDepth 10000 in
theorem c_X7_begins (l : Launch) {D : va_G} {cy : Nat → ClassId} {ad : Nat → Nat → Nat} {k : Nat} (hJ : wJ ad (nX k)) (S : St) (a1 : Int32) : CT l yX7_begins cX7_begins 2 none 0 D cy ad (nX k) toU okT [.ref (ad 7 0), .int a1] S (F_X7_begins S a1) := by
  refine CT.of RX7 (by decide) rfl hJ (Nat.le_of_ble_eq_true rfl) rfl ?_
  intro p e s m below meth c cx
  unfold F_X7_begins
  refine G_aload_n (q := 1) cx dX7_begins_0 rfl rfl ?_
  refine G_geti (q := 4) cx dX7_begins_1 rfl cf_7 fl_RX7_62 (Nat.le_of_ble_eq_true rfl) rfl (Nat.le_of_ble_eq_true rfl) ?_
  refine G_aload_n (q := 5) cx dX7_begins_4 rfl rfl ?_
  refine G_getr (q := 8) (g := 10) (i' := 0) cx dX7_begins_5 rfl cf_7 fl_RX7_48 (Nat.le_of_ble_eq_true rfl) rfl rfl (Nat.le_of_ble_eq_true rfl) ?_
  refine G_alenI (q := 9) (v := (20 : Int32)) cx dX7_begins_8 rfl (by decide) rfl (show Int32.ofNat 20 = (20 : Int32) by decide) (Nat.le_of_ble_eq_true rfl) ?_
  refine G_icmp_ge (q := 12) (t := 22) cx dX7_begins_9 rfl (by decide) (fun c1 => ?_) (fun c1 => ?_)
  · refine G_aload_n (q := 23) cx dX7_begins_22 rfl rfl ?_
    refine G_dup (q := 24) cx dX7_begins_23 rfl rfl ?_
    refine G_geti (q := 27) cx dX7_begins_24 rfl cf_7 fl_RX7_62 (Nat.le_of_ble_eq_true rfl) rfl (Nat.le_of_ble_eq_true rfl) ?_
    refine G_iconst (q := 28) (v := (1 : Int32)) cx dX7_begins_27 rfl (by decide) ?_
    refine G_iadd (q := 29) cx dX7_begins_28 rfl ?_
    refine G_puti (q := 32) cx dX7_begins_29 rfl cf_7 fl_RX7_62 (Nat.le_of_ble_eq_true rfl) rfl rfl rfl rfl rfl (Nat.le_of_ble_eq_true rfl) ?_
    exact G_vret cx rfl dX7_begins_32 trivial
  refine G_aload_n (q := 13) cx dX7_begins_12 rfl rfl ?_
  refine G_getr (q := 16) (g := 10) (i' := 0) cx dX7_begins_13 rfl cf_7 fl_RX7_48 (Nat.le_of_ble_eq_true rfl) rfl rfl (Nat.le_of_ble_eq_true rfl) ?_
  refine G_aload_n (q := 17) cx dX7_begins_16 rfl rfl ?_
  refine G_geti (q := 20) cx dX7_begins_17 rfl cf_7 fl_RX7_62 (Nat.le_of_ble_eq_true rfl) rfl (Nat.le_of_ble_eq_true rfl) ?_
  refine G_iload_n (q := 21) cx dX7_begins_20 rfl rfl ?_
  refine G_iast (q := 22) cx dX7_begins_21 rfl (by decide) rfl rfl (Nat.le_of_ble_eq_true rfl) (fun g2 g3 => ?_)
  refine G_aload_n (q := 23) cx dX7_begins_22 rfl rfl ?_
  refine G_dup (q := 24) cx dX7_begins_23 rfl rfl ?_
  refine G_geti (q := 27) cx dX7_begins_24 rfl cf_7 fl_RX7_62 (Nat.le_of_ble_eq_true rfl) rfl (Nat.le_of_ble_eq_true rfl) ?_
  refine G_iconst (q := 28) (v := (1 : Int32)) cx dX7_begins_27 rfl (by decide) ?_
  refine G_iadd (q := 29) cx dX7_begins_28 rfl ?_
  refine G_puti (q := 32) cx dX7_begins_29 rfl cf_7 fl_RX7_62 (Nat.le_of_ble_eq_true rfl) rfl rfl rfl rfl rfl (Nat.le_of_ble_eq_true rfl) ?_
  exact G_vret cx rfl dX7_begins_32 trivial
def F_X7_turns : Nat → St → Nat → Int32 → Int32 → Option (Int32 × St)
  | 0, _, _, _, _ => none
  | n + 1, S, a1, a2, a3 =>
    if a2 = 2 then (bnd (F_X7_begins S (30 : Int32)) (fun r2 S3 =>
    bnd (F_X7_turns n S3 a1 (0 : Int32) (a3 * (3 : Int32))) (fun r6 S7 =>
    some (r6, S7))))
    else (if a2 = 4 then (bnd (F_X7_begins S (50 : Int32)) (fun r11 S12 =>
    bnd (F_X7_turns n S12 a1 (1 : Int32) a3) (fun r15 S16 =>
    some (-r15, S16))))
    else (if a2 = 5 then (bnd (F_X7_begins S (30 : Int32)) (fun r20 S21 =>
    bnd (F_X7_turns n S21 a1 (0 : Int32) (a3 * (3 : Int32))) (fun r24 S25 =>
    some (r24, S25))))
    else (if a2 = 6 then (bnd (F_X7_begins S (71 : Int32)) (fun r29 S30 =>
    bnd (F_X7_turns n S30 a1 (3 : Int32) a3) (fun r33 S34 =>
    some (r33 ^^^ (gI S34 3 a1 3), S34))))
    else (bnd (F_X7_begins S (10 : Int32)) (fun r37 S38 =>
    some (a3 + (gI S38 3 a1 0), S38))))))
set_option maxRecDepth 10000 in
theorem c_X7_turns (l : Launch) {D : va_G} {cy : Nat → ClassId} {ad : Nat → Nat → Nat} {k : Nat} (hJ : wJ ad (nX k)) : ∀ (n_r : Nat) (S : St) (a1 : Nat) (a2 : Int32) (a3 : Int32) (h_a1 : a1 < 12), CT l yX7_turns cX7_turns 4 (some .int) (n_r + 1) D cy ad (nX k) toI okT [.ref (ad 7 0), .ref (ad 3 a1), .int a2, .int a3] S (F_X7_turns n_r S a1 a2 a3) := by
  intro n_r
  induction n_r with
  | zero => intro S a1 a2 a3 h_a1 r S1 hr; cases hr
  | succ n_r ih =>
    intro S a1 a2 a3 h_a1
    refine CT.of RX7 (by decide) rfl hJ (Nat.le_of_ble_eq_true rfl) rfl ?_
    intro p e s m below meth c cx
    rw [F_X7_turns.eq_2]
    refine G_iload_n (q := 1) cx dX7_turns_0 rfl rfl ?_
    refine G_case (fun w1 => ?_) (fun w1 => ?_)
    · refine G_tswIn (t := 36) (off := 35) cx dX7_turns_1 w1 (by decide) (by decide) (by decide) (by decide) ?_
      refine G_aload_n (q := 37) cx dX7_turns_36 rfl rfl ?_
      refine G_bipush (q := 39) (v := (30 : Int32)) cx dX7_turns_37 rfl (by decide) ?_
      refine G_callV (q := 42) (d' := 0) (f := 7) (i := 0) (As := [.int (30 : Int32)]) (rest := []) (stk := fun _ => []) cx dX7_turns_39 rfl cf_7 (Nat.le_of_ble_eq_true rfl) ml_RX7_297 rfl rfl (Nat.le_of_ble_eq_true rfl) (by omega) (Nat.le_of_ble_eq_true rfl) (c_X7_begins l hJ _ (30 : Int32)) (fun _ => rfl) (fun r2 S3 h4 o5 => ?_)
      refine G_aload_n (q := 43) cx dX7_turns_42 rfl rfl ?_
      refine G_aload_n (q := 44) cx dX7_turns_43 rfl rfl ?_
      refine G_iconst (q := 45) (v := (0 : Int32)) cx dX7_turns_44 rfl (by decide) ?_
      refine G_iload_n (q := 46) cx dX7_turns_45 rfl rfl ?_
      refine G_iconst (q := 47) (v := (3 : Int32)) cx dX7_turns_46 rfl (by decide) ?_
      refine G_imul (q := 48) cx dX7_turns_47 rfl ?_
      refine G_callV (q := 51) (d' := (n_r + 1)) (f := 7) (i := 0) (As := [.ref (ad 3 a1), .int (0 : Int32), .int (a3 * (3 : Int32))]) (rest := []) (stk := fun r6 => [.int r6]) cx dX7_turns_48 rfl cf_7 (Nat.le_of_ble_eq_true rfl) ml_RX7_271 rfl rfl (Nat.le_of_ble_eq_true rfl) (by omega) (Nat.le_of_ble_eq_true rfl) (ih _ a1 (0 : Int32) (a3 * (3 : Int32)) h_a1) (fun _ => rfl) (fun r6 S7 h8 o9 => ?_)
      exact G_iret cx rfl dX7_turns_51 trivial
    refine G_case (fun w10 => ?_) (fun w10 => ?_)
    · refine G_tswIn (t := 52) (off := 51) cx dX7_turns_1 w10 (by decide) (by decide) (by decide) (by decide) ?_
      refine G_aload_n (q := 53) cx dX7_turns_52 rfl rfl ?_
      refine G_bipush (q := 55) (v := (50 : Int32)) cx dX7_turns_53 rfl (by decide) ?_
      refine G_callV (q := 58) (d' := 0) (f := 7) (i := 0) (As := [.int (50 : Int32)]) (rest := []) (stk := fun _ => []) cx dX7_turns_55 rfl cf_7 (Nat.le_of_ble_eq_true rfl) ml_RX7_297 rfl rfl (Nat.le_of_ble_eq_true rfl) (by omega) (Nat.le_of_ble_eq_true rfl) (c_X7_begins l hJ _ (50 : Int32)) (fun _ => rfl) (fun r11 S12 h13 o14 => ?_)
      refine G_aload_n (q := 59) cx dX7_turns_58 rfl rfl ?_
      refine G_aload_n (q := 60) cx dX7_turns_59 rfl rfl ?_
      refine G_iconst (q := 61) (v := (1 : Int32)) cx dX7_turns_60 rfl (by decide) ?_
      refine G_iload_n (q := 62) cx dX7_turns_61 rfl rfl ?_
      refine G_callV (q := 65) (d' := (n_r + 1)) (f := 7) (i := 0) (As := [.ref (ad 3 a1), .int (1 : Int32), .int a3]) (rest := []) (stk := fun r15 => [.int r15]) cx dX7_turns_62 rfl cf_7 (Nat.le_of_ble_eq_true rfl) ml_RX7_271 rfl rfl (Nat.le_of_ble_eq_true rfl) (by omega) (Nat.le_of_ble_eq_true rfl) (ih _ a1 (1 : Int32) a3 h_a1) (fun _ => rfl) (fun r15 S16 h17 o18 => ?_)
      refine G_ineg (q := 66) cx dX7_turns_65 rfl ?_
      exact G_iret cx rfl dX7_turns_66 trivial
    refine G_case (fun w19 => ?_) (fun w19 => ?_)
    · refine G_tswIn (t := 36) (off := 35) cx dX7_turns_1 w19 (by decide) (by decide) (by decide) (by decide) ?_
      refine G_aload_n (q := 37) cx dX7_turns_36 rfl rfl ?_
      refine G_bipush (q := 39) (v := (30 : Int32)) cx dX7_turns_37 rfl (by decide) ?_
      refine G_callV (q := 42) (d' := 0) (f := 7) (i := 0) (As := [.int (30 : Int32)]) (rest := []) (stk := fun _ => []) cx dX7_turns_39 rfl cf_7 (Nat.le_of_ble_eq_true rfl) ml_RX7_297 rfl rfl (Nat.le_of_ble_eq_true rfl) (by omega) (Nat.le_of_ble_eq_true rfl) (c_X7_begins l hJ _ (30 : Int32)) (fun _ => rfl) (fun r20 S21 h22 o23 => ?_)
      refine G_aload_n (q := 43) cx dX7_turns_42 rfl rfl ?_
      refine G_aload_n (q := 44) cx dX7_turns_43 rfl rfl ?_
      refine G_iconst (q := 45) (v := (0 : Int32)) cx dX7_turns_44 rfl (by decide) ?_
      refine G_iload_n (q := 46) cx dX7_turns_45 rfl rfl ?_
      refine G_iconst (q := 47) (v := (3 : Int32)) cx dX7_turns_46 rfl (by decide) ?_
      refine G_imul (q := 48) cx dX7_turns_47 rfl ?_
      refine G_callV (q := 51) (d' := (n_r + 1)) (f := 7) (i := 0) (As := [.ref (ad 3 a1), .int (0 : Int32), .int (a3 * (3 : Int32))]) (rest := []) (stk := fun r24 => [.int r24]) cx dX7_turns_48 rfl cf_7 (Nat.le_of_ble_eq_true rfl) ml_RX7_271 rfl rfl (Nat.le_of_ble_eq_true rfl) (by omega) (Nat.le_of_ble_eq_true rfl) (ih _ a1 (0 : Int32) (a3 * (3 : Int32)) h_a1) (fun _ => rfl) (fun r24 S25 h26 o27 => ?_)
      exact G_iret cx rfl dX7_turns_51 trivial
    refine G_case (fun w28 => ?_) (fun w28 => ?_)
    · refine G_tswIn (t := 67) (off := 66) cx dX7_turns_1 w28 (by decide) (by decide) (by decide) (by decide) ?_
      refine G_aload_n (q := 68) cx dX7_turns_67 rfl rfl ?_
      refine G_bipush (q := 70) (v := (71 : Int32)) cx dX7_turns_68 rfl (by decide) ?_
      refine G_callV (q := 73) (d' := 0) (f := 7) (i := 0) (As := [.int (71 : Int32)]) (rest := []) (stk := fun _ => []) cx dX7_turns_70 rfl cf_7 (Nat.le_of_ble_eq_true rfl) ml_RX7_297 rfl rfl (Nat.le_of_ble_eq_true rfl) (by omega) (Nat.le_of_ble_eq_true rfl) (c_X7_begins l hJ _ (71 : Int32)) (fun _ => rfl) (fun r29 S30 h31 o32 => ?_)
      refine G_aload_n (q := 74) cx dX7_turns_73 rfl rfl ?_
      refine G_aload_n (q := 75) cx dX7_turns_74 rfl rfl ?_
      refine G_iconst (q := 76) (v := (3 : Int32)) cx dX7_turns_75 rfl (by decide) ?_
      refine G_iload_n (q := 77) cx dX7_turns_76 rfl rfl ?_
      refine G_callV (q := 80) (d' := (n_r + 1)) (f := 7) (i := 0) (As := [.ref (ad 3 a1), .int (3 : Int32), .int a3]) (rest := []) (stk := fun r33 => [.int r33]) cx dX7_turns_77 rfl cf_7 (Nat.le_of_ble_eq_true rfl) ml_RX7_271 rfl rfl (Nat.le_of_ble_eq_true rfl) (by omega) (Nat.le_of_ble_eq_true rfl) (ih _ a1 (3 : Int32) a3 h_a1) (fun _ => rfl) (fun r33 S34 h35 o36 => ?_)
      refine G_aload_n (q := 81) cx dX7_turns_80 rfl rfl ?_
      refine G_geti (q := 84) cx dX7_turns_81 rfl cf_3 fl_RX7_100 (Nat.le_of_ble_eq_true rfl) rfl h_a1 ?_
      refine G_ixor (q := 85) cx dX7_turns_84 rfl ?_
      exact G_iret cx rfl dX7_turns_85 trivial
    have hz1_0 := lv_neT w1 (show (2 : Int32).toInt = 2 by decide)
    have hz1_1 := lv_neT w10 (show (4 : Int32).toInt = 4 by decide)
    have hz1_2 := lv_neT w19 (show (5 : Int32).toInt = 5 by decide)
    have hz1_3 := lv_neT w28 (show (6 : Int32).toInt = 6 by decide)
    refine G_tswDef (t := 86) cx dX7_turns_1 (fun u1 u2 => by rcases (show a2.toInt = 3 by omega) with u <;> (rw [u]; decide)) (by decide) ?_
    refine G_aload_n (q := 87) cx dX7_turns_86 rfl rfl ?_
    refine G_bipush (q := 89) (v := (10 : Int32)) cx dX7_turns_87 rfl (by decide) ?_
    refine G_callV (q := 92) (d' := 0) (f := 7) (i := 0) (As := [.int (10 : Int32)]) (rest := []) (stk := fun _ => []) cx dX7_turns_89 rfl cf_7 (Nat.le_of_ble_eq_true rfl) ml_RX7_297 rfl rfl (Nat.le_of_ble_eq_true rfl) (by omega) (Nat.le_of_ble_eq_true rfl) (c_X7_begins l hJ _ (10 : Int32)) (fun _ => rfl) (fun r37 S38 h39 o40 => ?_)
    refine G_iload_n (q := 93) cx dX7_turns_92 rfl rfl ?_
    refine G_aload_n (q := 94) cx dX7_turns_93 rfl rfl ?_
    refine G_geti (q := 97) cx dX7_turns_94 rfl cf_3 fl_RX7_301 (Nat.le_of_ble_eq_true rfl) rfl h_a1 ?_
    refine G_iadd (q := 98) cx dX7_turns_97 rfl ?_
    exact G_iret cx rfl dX7_turns_98 trivial
def F_X7_climbs : Nat → St → Nat → Int32 → Int32 → Option (Int32 × St)
  | 0, _, _, _, _ => none
  | n + 1, S, a1, a2, a3 =>
    if a2 = 1 then (bnd (F_X7_begins S (20 : Int32)) (fun r2 S3 =>
    bnd (F_X7_climbs n S3 a1 (0 : Int32) a3) (fun r6 S7 =>
    some (r6 ^^^ (6 : Int32), S7))))
    else (if a2 = 4 then (bnd (F_X7_begins S (51 : Int32)) (fun r11 S12 =>
    bnd (F_X7_climbs n S12 a1 (1 : Int32) (a3 + (1 : Int32))) (fun r15 S16 =>
    some (r15, S16))))
    else (if a2 = 6 then (bnd (F_X7_begins S (70 : Int32)) (fun r20 S21 =>
    bnd (F_X7_climbs n S21 a1 (3 : Int32) a3) (fun r24 S25 =>
    bnd (F_X7_turns 3 S25 a1 (3 : Int32) (2 : Int32)) (fun r28 S29 =>
    some (r24 + r28, S29)))))
    else (bnd (F_X7_begins S (11 : Int32)) (fun r32 S33 =>
    bnd (F_X7_turns 3 S33 a1 (gI S33 3 a1 2) a3) (fun r36 S37 =>
    some (r36 - (gI S37 3 a1 3), S37))))))
set_option maxRecDepth 10000 in
theorem c_X7_climbs (l : Launch) {D : va_G} {cy : Nat → ClassId} {ad : Nat → Nat → Nat} {k : Nat} (hJ : wJ ad (nX k)) : ∀ (n_r : Nat) (S : St) (a1 : Nat) (a2 : Int32) (a3 : Int32) (h_a1 : a1 < 12), CT l yX7_climbs cX7_climbs 4 (some .int) (n_r + 5) D cy ad (nX k) toI okT [.ref (ad 7 0), .ref (ad 3 a1), .int a2, .int a3] S (F_X7_climbs n_r S a1 a2 a3) := by
  intro n_r
  induction n_r with
  | zero => intro S a1 a2 a3 h_a1 r S1 hr; cases hr
  | succ n_r ih =>
    intro S a1 a2 a3 h_a1
    refine CT.of RX7 (by decide) rfl hJ (Nat.le_of_ble_eq_true rfl) rfl ?_
    intro p e s m below meth c cx
    rw [F_X7_climbs.eq_2]
    refine G_iload_n (q := 1) cx dX7_climbs_0 rfl rfl ?_
    refine G_case (fun w1 => ?_) (fun w1 => ?_)
    · refine G_lsw (t := 36) (off := 35) cx dX7_climbs_1 (by decide) (by rw [w1] <;> decide) (by decide) ?_
      refine G_aload_n (q := 37) cx dX7_climbs_36 rfl rfl ?_
      refine G_bipush (q := 39) (v := (20 : Int32)) cx dX7_climbs_37 rfl (by decide) ?_
      refine G_callV (q := 42) (d' := 0) (f := 7) (i := 0) (As := [.int (20 : Int32)]) (rest := []) (stk := fun _ => []) cx dX7_climbs_39 rfl cf_7 (Nat.le_of_ble_eq_true rfl) ml_RX7_297 rfl rfl (Nat.le_of_ble_eq_true rfl) (by omega) (Nat.le_of_ble_eq_true rfl) (c_X7_begins l hJ _ (20 : Int32)) (fun _ => rfl) (fun r2 S3 h4 o5 => ?_)
      refine G_aload_n (q := 43) cx dX7_climbs_42 rfl rfl ?_
      refine G_aload_n (q := 44) cx dX7_climbs_43 rfl rfl ?_
      refine G_iconst (q := 45) (v := (0 : Int32)) cx dX7_climbs_44 rfl (by decide) ?_
      refine G_iload_n (q := 46) cx dX7_climbs_45 rfl rfl ?_
      refine G_callV (q := 49) (d' := (n_r + 5)) (f := 7) (i := 0) (As := [.ref (ad 3 a1), .int (0 : Int32), .int a3]) (rest := []) (stk := fun r6 => [.int r6]) cx dX7_climbs_46 rfl cf_7 (Nat.le_of_ble_eq_true rfl) ml_RX7_275 rfl rfl (Nat.le_of_ble_eq_true rfl) (by omega) (Nat.le_of_ble_eq_true rfl) (ih _ a1 (0 : Int32) a3 h_a1) (fun _ => rfl) (fun r6 S7 h8 o9 => ?_)
      refine G_bipush (q := 51) (v := (6 : Int32)) cx dX7_climbs_49 rfl (by decide) ?_
      refine G_ixor (q := 52) cx dX7_climbs_51 rfl ?_
      exact G_iret cx rfl dX7_climbs_52 trivial
    refine G_case (fun w10 => ?_) (fun w10 => ?_)
    · refine G_lsw (t := 53) (off := 52) cx dX7_climbs_1 (by decide) (by rw [w10] <;> decide) (by decide) ?_
      refine G_aload_n (q := 54) cx dX7_climbs_53 rfl rfl ?_
      refine G_bipush (q := 56) (v := (51 : Int32)) cx dX7_climbs_54 rfl (by decide) ?_
      refine G_callV (q := 59) (d' := 0) (f := 7) (i := 0) (As := [.int (51 : Int32)]) (rest := []) (stk := fun _ => []) cx dX7_climbs_56 rfl cf_7 (Nat.le_of_ble_eq_true rfl) ml_RX7_297 rfl rfl (Nat.le_of_ble_eq_true rfl) (by omega) (Nat.le_of_ble_eq_true rfl) (c_X7_begins l hJ _ (51 : Int32)) (fun _ => rfl) (fun r11 S12 h13 o14 => ?_)
      refine G_aload_n (q := 60) cx dX7_climbs_59 rfl rfl ?_
      refine G_aload_n (q := 61) cx dX7_climbs_60 rfl rfl ?_
      refine G_iconst (q := 62) (v := (1 : Int32)) cx dX7_climbs_61 rfl (by decide) ?_
      refine G_iload_n (q := 63) cx dX7_climbs_62 rfl rfl ?_
      refine G_iconst (q := 64) (v := (1 : Int32)) cx dX7_climbs_63 rfl (by decide) ?_
      refine G_iadd (q := 65) cx dX7_climbs_64 rfl ?_
      refine G_callV (q := 68) (d' := (n_r + 5)) (f := 7) (i := 0) (As := [.ref (ad 3 a1), .int (1 : Int32), .int (a3 + (1 : Int32))]) (rest := []) (stk := fun r15 => [.int r15]) cx dX7_climbs_65 rfl cf_7 (Nat.le_of_ble_eq_true rfl) ml_RX7_275 rfl rfl (Nat.le_of_ble_eq_true rfl) (by omega) (Nat.le_of_ble_eq_true rfl) (ih _ a1 (1 : Int32) (a3 + (1 : Int32)) h_a1) (fun _ => rfl) (fun r15 S16 h17 o18 => ?_)
      exact G_iret cx rfl dX7_climbs_68 trivial
    refine G_case (fun w19 => ?_) (fun w19 => ?_)
    · refine G_lsw (t := 69) (off := 68) cx dX7_climbs_1 (by decide) (by rw [w19] <;> decide) (by decide) ?_
      refine G_aload_n (q := 70) cx dX7_climbs_69 rfl rfl ?_
      refine G_bipush (q := 72) (v := (70 : Int32)) cx dX7_climbs_70 rfl (by decide) ?_
      refine G_callV (q := 75) (d' := 0) (f := 7) (i := 0) (As := [.int (70 : Int32)]) (rest := []) (stk := fun _ => []) cx dX7_climbs_72 rfl cf_7 (Nat.le_of_ble_eq_true rfl) ml_RX7_297 rfl rfl (Nat.le_of_ble_eq_true rfl) (by omega) (Nat.le_of_ble_eq_true rfl) (c_X7_begins l hJ _ (70 : Int32)) (fun _ => rfl) (fun r20 S21 h22 o23 => ?_)
      refine G_aload_n (q := 76) cx dX7_climbs_75 rfl rfl ?_
      refine G_aload_n (q := 77) cx dX7_climbs_76 rfl rfl ?_
      refine G_iconst (q := 78) (v := (3 : Int32)) cx dX7_climbs_77 rfl (by decide) ?_
      refine G_iload_n (q := 79) cx dX7_climbs_78 rfl rfl ?_
      refine G_callV (q := 82) (d' := (n_r + 5)) (f := 7) (i := 0) (As := [.ref (ad 3 a1), .int (3 : Int32), .int a3]) (rest := []) (stk := fun r24 => [.int r24]) cx dX7_climbs_79 rfl cf_7 (Nat.le_of_ble_eq_true rfl) ml_RX7_275 rfl rfl (Nat.le_of_ble_eq_true rfl) (by omega) (Nat.le_of_ble_eq_true rfl) (ih _ a1 (3 : Int32) a3 h_a1) (fun _ => rfl) (fun r24 S25 h26 o27 => ?_)
      refine G_aload_n (q := 83) cx dX7_climbs_82 rfl rfl ?_
      refine G_aload_n (q := 84) cx dX7_climbs_83 rfl rfl ?_
      refine G_iconst (q := 85) (v := (3 : Int32)) cx dX7_climbs_84 rfl (by decide) ?_
      refine G_iconst (q := 86) (v := (2 : Int32)) cx dX7_climbs_85 rfl (by decide) ?_
      refine G_callV (q := 89) (d' := 4) (f := 7) (i := 0) (As := [.ref (ad 3 a1), .int (3 : Int32), .int (2 : Int32)]) (rest := [.int r24]) (stk := fun r28 => [.int r28, .int r24]) cx dX7_climbs_86 rfl cf_7 (Nat.le_of_ble_eq_true rfl) ml_RX7_271 rfl rfl (Nat.le_of_ble_eq_true rfl) (by omega) (Nat.le_of_ble_eq_true rfl) (c_X7_turns l hJ 3 _ a1 (3 : Int32) (2 : Int32) h_a1) (fun _ => rfl) (fun r28 S29 h30 o31 => ?_)
      refine G_iadd (q := 90) cx dX7_climbs_89 rfl ?_
      exact G_iret cx rfl dX7_climbs_90 trivial
    refine G_lsw (t := 91) (off := 90) cx dX7_climbs_1 (by decide) (by show Op.lookupswitch.offset [(1, 35), (4, 52), (6, 68)] 90 _ = _; rw [lv_osw w1 (show (1 : Int32).toInt = 1 by decide)]; rw [lv_osw w10 (show (4 : Int32).toInt = 4 by decide)]; rw [lv_osw w19 (show (6 : Int32).toInt = 6 by decide)] <;> rfl) (by decide) ?_
    refine G_aload_n (q := 92) cx dX7_climbs_91 rfl rfl ?_
    refine G_bipush (q := 94) (v := (11 : Int32)) cx dX7_climbs_92 rfl (by decide) ?_
    refine G_callV (q := 97) (d' := 0) (f := 7) (i := 0) (As := [.int (11 : Int32)]) (rest := []) (stk := fun _ => []) cx dX7_climbs_94 rfl cf_7 (Nat.le_of_ble_eq_true rfl) ml_RX7_297 rfl rfl (Nat.le_of_ble_eq_true rfl) (by omega) (Nat.le_of_ble_eq_true rfl) (c_X7_begins l hJ _ (11 : Int32)) (fun _ => rfl) (fun r32 S33 h34 o35 => ?_)
    refine G_aload_n (q := 98) cx dX7_climbs_97 rfl rfl ?_
    refine G_aload_n (q := 99) cx dX7_climbs_98 rfl rfl ?_
    refine G_aload_n (q := 100) cx dX7_climbs_99 rfl rfl ?_
    refine G_geti (q := 103) cx dX7_climbs_100 rfl cf_3 fl_RX7_97 (Nat.le_of_ble_eq_true rfl) rfl h_a1 ?_
    refine G_iload_n (q := 104) cx dX7_climbs_103 rfl rfl ?_
    refine G_callV (q := 107) (d' := 4) (f := 7) (i := 0) (As := [.ref (ad 3 a1), .int (gI S33 3 a1 2), .int a3]) (rest := []) (stk := fun r36 => [.int r36]) cx dX7_climbs_104 rfl cf_7 (Nat.le_of_ble_eq_true rfl) ml_RX7_271 rfl rfl (Nat.le_of_ble_eq_true rfl) (by omega) (Nat.le_of_ble_eq_true rfl) (c_X7_turns l hJ 3 _ a1 (gI S33 3 a1 2) a3 h_a1) (fun _ => rfl) (fun r36 S37 h38 o39 => ?_)
    refine G_aload_n (q := 108) cx dX7_climbs_107 rfl rfl ?_
    refine G_geti (q := 111) cx dX7_climbs_108 rfl cf_3 fl_RX7_100 (Nat.le_of_ble_eq_true rfl) rfl h_a1 ?_
    refine G_isub (q := 112) cx dX7_climbs_111 rfl ?_
    exact G_iret cx rfl dX7_climbs_112 trivial
def F_X7_tells : Nat → St → Nat → Int32 → Int32 → Option (Int32 × St)
  | 0, _, _, _, _ => none
  | n + 1, S, a1, a2, a3 =>
    if a2 = 3 then (bnd (F_X7_begins S (40 : Int32)) (fun r2 S3 =>
    bnd (F_X7_tells n S3 a1 (0 : Int32) a3) (fun r6 S7 =>
    bnd (F_X7_climbs 4 S7 a1 (gI S7 3 a1 2) (1 : Int32)) (fun r10 S11 =>
    some (r6 + r10, S11)))))
    else (if a2 = 5 then (bnd (F_X7_begins S (60 : Int32)) (fun r15 S16 =>
    bnd (F_X7_tells n S16 a1 (2 : Int32) (a3 - (gI S16 3 a1 0))) (fun r19 S20 =>
    some (r19, S20))))
    else (if a2 = 6 then (bnd (F_X7_begins S (40 : Int32)) (fun r24 S25 =>
    bnd (F_X7_tells n S25 a1 (0 : Int32) a3) (fun r28 S29 =>
    bnd (F_X7_climbs 4 S29 a1 (gI S29 3 a1 2) (1 : Int32)) (fun r32 S33 =>
    some (r28 + r32, S33)))))
    else (bnd (F_X7_begins S (12 : Int32)) (fun r36 S37 =>
    bnd (F_X7_climbs 4 S37 a1 (gI S37 3 a1 2) a3) (fun r40 S41 =>
    some (r40 * (2 : Int32), S41))))))
set_option maxRecDepth 10000 in
theorem c_X7_tells (l : Launch) {D : va_G} {cy : Nat → ClassId} {ad : Nat → Nat → Nat} {k : Nat} (hJ : wJ ad (nX k)) : ∀ (n_r : Nat) (S : St) (a1 : Nat) (a2 : Int32) (a3 : Int32) (h_a1 : a1 < 12), CT l yX7_tells cX7_tells 4 (some .int) (n_r + 10) D cy ad (nX k) toI okT [.ref (ad 7 0), .ref (ad 3 a1), .int a2, .int a3] S (F_X7_tells n_r S a1 a2 a3) := by
  intro n_r
  induction n_r with
  | zero => intro S a1 a2 a3 h_a1 r S1 hr; cases hr
  | succ n_r ih =>
    intro S a1 a2 a3 h_a1
    refine CT.of RX7 (by decide) rfl hJ (Nat.le_of_ble_eq_true rfl) rfl ?_
    intro p e s m below meth c cx
    rw [F_X7_tells.eq_2]
    refine G_iload_n (q := 1) cx dX7_tells_0 rfl rfl ?_
    refine G_case (fun w1 => ?_) (fun w1 => ?_)
    · refine G_tswIn (t := 32) (off := 31) cx dX7_tells_1 w1 (by decide) (by decide) (by decide) (by decide) ?_
      refine G_aload_n (q := 33) cx dX7_tells_32 rfl rfl ?_
      refine G_bipush (q := 35) (v := (40 : Int32)) cx dX7_tells_33 rfl (by decide) ?_
      refine G_callV (q := 38) (d' := 0) (f := 7) (i := 0) (As := [.int (40 : Int32)]) (rest := []) (stk := fun _ => []) cx dX7_tells_35 rfl cf_7 (Nat.le_of_ble_eq_true rfl) ml_RX7_297 rfl rfl (Nat.le_of_ble_eq_true rfl) (by omega) (Nat.le_of_ble_eq_true rfl) (c_X7_begins l hJ _ (40 : Int32)) (fun _ => rfl) (fun r2 S3 h4 o5 => ?_)
      refine G_aload_n (q := 39) cx dX7_tells_38 rfl rfl ?_
      refine G_aload_n (q := 40) cx dX7_tells_39 rfl rfl ?_
      refine G_iconst (q := 41) (v := (0 : Int32)) cx dX7_tells_40 rfl (by decide) ?_
      refine G_iload_n (q := 42) cx dX7_tells_41 rfl rfl ?_
      refine G_callV (q := 45) (d' := (n_r + 10)) (f := 7) (i := 0) (As := [.ref (ad 3 a1), .int (0 : Int32), .int a3]) (rest := []) (stk := fun r6 => [.int r6]) cx dX7_tells_42 rfl cf_7 (Nat.le_of_ble_eq_true rfl) ml_RX7_278 rfl rfl (Nat.le_of_ble_eq_true rfl) (by omega) (Nat.le_of_ble_eq_true rfl) (ih _ a1 (0 : Int32) a3 h_a1) (fun _ => rfl) (fun r6 S7 h8 o9 => ?_)
      refine G_aload_n (q := 46) cx dX7_tells_45 rfl rfl ?_
      refine G_aload_n (q := 47) cx dX7_tells_46 rfl rfl ?_
      refine G_aload_n (q := 48) cx dX7_tells_47 rfl rfl ?_
      refine G_geti (q := 51) cx dX7_tells_48 rfl cf_3 fl_RX7_97 (Nat.le_of_ble_eq_true rfl) rfl h_a1 ?_
      refine G_iconst (q := 52) (v := (1 : Int32)) cx dX7_tells_51 rfl (by decide) ?_
      refine G_callV (q := 55) (d' := 9) (f := 7) (i := 0) (As := [.ref (ad 3 a1), .int (gI S7 3 a1 2), .int (1 : Int32)]) (rest := [.int r6]) (stk := fun r10 => [.int r10, .int r6]) cx dX7_tells_52 rfl cf_7 (Nat.le_of_ble_eq_true rfl) ml_RX7_275 rfl rfl (Nat.le_of_ble_eq_true rfl) (by omega) (Nat.le_of_ble_eq_true rfl) (c_X7_climbs l hJ 4 _ a1 (gI S7 3 a1 2) (1 : Int32) h_a1) (fun _ => rfl) (fun r10 S11 h12 o13 => ?_)
      refine G_iadd (q := 56) cx dX7_tells_55 rfl ?_
      exact G_iret cx rfl dX7_tells_56 trivial
    refine G_case (fun w14 => ?_) (fun w14 => ?_)
    · refine G_tswIn (t := 57) (off := 56) cx dX7_tells_1 w14 (by decide) (by decide) (by decide) (by decide) ?_
      refine G_aload_n (q := 58) cx dX7_tells_57 rfl rfl ?_
      refine G_bipush (q := 60) (v := (60 : Int32)) cx dX7_tells_58 rfl (by decide) ?_
      refine G_callV (q := 63) (d' := 0) (f := 7) (i := 0) (As := [.int (60 : Int32)]) (rest := []) (stk := fun _ => []) cx dX7_tells_60 rfl cf_7 (Nat.le_of_ble_eq_true rfl) ml_RX7_297 rfl rfl (Nat.le_of_ble_eq_true rfl) (by omega) (Nat.le_of_ble_eq_true rfl) (c_X7_begins l hJ _ (60 : Int32)) (fun _ => rfl) (fun r15 S16 h17 o18 => ?_)
      refine G_aload_n (q := 64) cx dX7_tells_63 rfl rfl ?_
      refine G_aload_n (q := 65) cx dX7_tells_64 rfl rfl ?_
      refine G_iconst (q := 66) (v := (2 : Int32)) cx dX7_tells_65 rfl (by decide) ?_
      refine G_iload_n (q := 67) cx dX7_tells_66 rfl rfl ?_
      refine G_aload_n (q := 68) cx dX7_tells_67 rfl rfl ?_
      refine G_geti (q := 71) cx dX7_tells_68 rfl cf_3 fl_RX7_301 (Nat.le_of_ble_eq_true rfl) rfl h_a1 ?_
      refine G_isub (q := 72) cx dX7_tells_71 rfl ?_
      refine G_callV (q := 75) (d' := (n_r + 10)) (f := 7) (i := 0) (As := [.ref (ad 3 a1), .int (2 : Int32), .int (a3 - (gI S16 3 a1 0))]) (rest := []) (stk := fun r19 => [.int r19]) cx dX7_tells_72 rfl cf_7 (Nat.le_of_ble_eq_true rfl) ml_RX7_278 rfl rfl (Nat.le_of_ble_eq_true rfl) (by omega) (Nat.le_of_ble_eq_true rfl) (ih _ a1 (2 : Int32) (a3 - (gI S16 3 a1 0)) h_a1) (fun _ => rfl) (fun r19 S20 h21 o22 => ?_)
      exact G_iret cx rfl dX7_tells_75 trivial
    refine G_case (fun w23 => ?_) (fun w23 => ?_)
    · refine G_tswIn (t := 32) (off := 31) cx dX7_tells_1 w23 (by decide) (by decide) (by decide) (by decide) ?_
      refine G_aload_n (q := 33) cx dX7_tells_32 rfl rfl ?_
      refine G_bipush (q := 35) (v := (40 : Int32)) cx dX7_tells_33 rfl (by decide) ?_
      refine G_callV (q := 38) (d' := 0) (f := 7) (i := 0) (As := [.int (40 : Int32)]) (rest := []) (stk := fun _ => []) cx dX7_tells_35 rfl cf_7 (Nat.le_of_ble_eq_true rfl) ml_RX7_297 rfl rfl (Nat.le_of_ble_eq_true rfl) (by omega) (Nat.le_of_ble_eq_true rfl) (c_X7_begins l hJ _ (40 : Int32)) (fun _ => rfl) (fun r24 S25 h26 o27 => ?_)
      refine G_aload_n (q := 39) cx dX7_tells_38 rfl rfl ?_
      refine G_aload_n (q := 40) cx dX7_tells_39 rfl rfl ?_
      refine G_iconst (q := 41) (v := (0 : Int32)) cx dX7_tells_40 rfl (by decide) ?_
      refine G_iload_n (q := 42) cx dX7_tells_41 rfl rfl ?_
      refine G_callV (q := 45) (d' := (n_r + 10)) (f := 7) (i := 0) (As := [.ref (ad 3 a1), .int (0 : Int32), .int a3]) (rest := []) (stk := fun r28 => [.int r28]) cx dX7_tells_42 rfl cf_7 (Nat.le_of_ble_eq_true rfl) ml_RX7_278 rfl rfl (Nat.le_of_ble_eq_true rfl) (by omega) (Nat.le_of_ble_eq_true rfl) (ih _ a1 (0 : Int32) a3 h_a1) (fun _ => rfl) (fun r28 S29 h30 o31 => ?_)
      refine G_aload_n (q := 46) cx dX7_tells_45 rfl rfl ?_
      refine G_aload_n (q := 47) cx dX7_tells_46 rfl rfl ?_
      refine G_aload_n (q := 48) cx dX7_tells_47 rfl rfl ?_
      refine G_geti (q := 51) cx dX7_tells_48 rfl cf_3 fl_RX7_97 (Nat.le_of_ble_eq_true rfl) rfl h_a1 ?_
      refine G_iconst (q := 52) (v := (1 : Int32)) cx dX7_tells_51 rfl (by decide) ?_
      refine G_callV (q := 55) (d' := 9) (f := 7) (i := 0) (As := [.ref (ad 3 a1), .int (gI S29 3 a1 2), .int (1 : Int32)]) (rest := [.int r28]) (stk := fun r32 => [.int r32, .int r28]) cx dX7_tells_52 rfl cf_7 (Nat.le_of_ble_eq_true rfl) ml_RX7_275 rfl rfl (Nat.le_of_ble_eq_true rfl) (by omega) (Nat.le_of_ble_eq_true rfl) (c_X7_climbs l hJ 4 _ a1 (gI S29 3 a1 2) (1 : Int32) h_a1) (fun _ => rfl) (fun r32 S33 h34 o35 => ?_)
      refine G_iadd (q := 56) cx dX7_tells_55 rfl ?_
      exact G_iret cx rfl dX7_tells_56 trivial
    have hz1_0 := lv_neT w1 (show (3 : Int32).toInt = 3 by decide)
    have hz1_1 := lv_neT w14 (show (5 : Int32).toInt = 5 by decide)
    have hz1_2 := lv_neT w23 (show (6 : Int32).toInt = 6 by decide)
    refine G_tswDef (t := 76) cx dX7_tells_1 (fun u1 u2 => by rcases (show a2.toInt = 4 by omega) with u <;> (rw [u]; decide)) (by decide) ?_
    refine G_aload_n (q := 77) cx dX7_tells_76 rfl rfl ?_
    refine G_bipush (q := 79) (v := (12 : Int32)) cx dX7_tells_77 rfl (by decide) ?_
    refine G_callV (q := 82) (d' := 0) (f := 7) (i := 0) (As := [.int (12 : Int32)]) (rest := []) (stk := fun _ => []) cx dX7_tells_79 rfl cf_7 (Nat.le_of_ble_eq_true rfl) ml_RX7_297 rfl rfl (Nat.le_of_ble_eq_true rfl) (by omega) (Nat.le_of_ble_eq_true rfl) (c_X7_begins l hJ _ (12 : Int32)) (fun _ => rfl) (fun r36 S37 h38 o39 => ?_)
    refine G_aload_n (q := 83) cx dX7_tells_82 rfl rfl ?_
    refine G_aload_n (q := 84) cx dX7_tells_83 rfl rfl ?_
    refine G_aload_n (q := 85) cx dX7_tells_84 rfl rfl ?_
    refine G_geti (q := 88) cx dX7_tells_85 rfl cf_3 fl_RX7_97 (Nat.le_of_ble_eq_true rfl) rfl h_a1 ?_
    refine G_iload_n (q := 89) cx dX7_tells_88 rfl rfl ?_
    refine G_callV (q := 92) (d' := 9) (f := 7) (i := 0) (As := [.ref (ad 3 a1), .int (gI S37 3 a1 2), .int a3]) (rest := []) (stk := fun r40 => [.int r40]) cx dX7_tells_89 rfl cf_7 (Nat.le_of_ble_eq_true rfl) ml_RX7_275 rfl rfl (Nat.le_of_ble_eq_true rfl) (by omega) (Nat.le_of_ble_eq_true rfl) (c_X7_climbs l hJ 4 _ a1 (gI S37 3 a1 2) a3 h_a1) (fun _ => rfl) (fun r40 S41 h42 o43 => ?_)
    refine G_iconst (q := 93) (v := (2 : Int32)) cx dX7_tells_92 rfl (by decide) ?_
    refine G_imul (q := 94) cx dX7_tells_93 rfl ?_
    exact G_iret cx rfl dX7_tells_94 trivial
def F_X1_peeked (S : St) : Option (Int32 × St) :=
  if (gI S 1 0 2) < 0 then (some ((128 : Int32), S))
  else (if (gI S 1 0 1) ≤ (gI S 1 0 2) then (some ((128 : Int32), S))
  else (if (100 : Int32) ≤ (gI S 1 0 2) then (some ((128 : Int32), S))
  else (if 0 ≤ (gI S 1 0 2) ∧ (gI S 1 0 2).toNatClampNeg < 100 then (some (((gI S 17 0 (gI S 1 0 2).toNatClampNeg).toUInt32 % 65536).toInt32, S))
  else none)))
set_option maxRecDepth 10000 in
theorem c_X1_peeked (l : Launch) {D : va_G} {cy : Nat → ClassId} {ad : Nat → Nat → Nat} {k : Nat} (hJ : wJ ad (nX k)) (S : St) : CT l yX1_peeked cX1_peeked 1 (some .char) 0 D cy ad (nX k) toI okC [.ref (ad 1 0)] S (F_X1_peeked S) := by
  refine CT.of RX1 (by decide) rfl hJ (Nat.le_of_ble_eq_true rfl) rfl ?_
  intro p e s m below meth c cx
  unfold F_X1_peeked
  refine G_aload_n (q := 1) cx dX1_peeked_0 rfl rfl ?_
  refine G_geti (q := 4) cx dX1_peeked_1 rfl cf_1 fl_RX1_19 (Nat.le_of_ble_eq_true rfl) rfl (Nat.le_of_ble_eq_true rfl) ?_
  refine G_if_lt (q := 7) (t := 43) cx dX1_peeked_4 rfl (by decide) (fun c1 => ?_) (fun c1 => ?_)
  · refine G_sipush (q := 46) (v := (128 : Int32)) cx dX1_peeked_43 rfl (by decide) ?_
    exact G_zret (ty := .char) cx rfl dX1_peeked_46 rfl rfl
  refine G_aload_n (q := 8) cx dX1_peeked_7 rfl rfl ?_
  refine G_geti (q := 11) cx dX1_peeked_8 rfl cf_1 fl_RX1_19 (Nat.le_of_ble_eq_true rfl) rfl (Nat.le_of_ble_eq_true rfl) ?_
  refine G_aload_n (q := 12) cx dX1_peeked_11 rfl rfl ?_
  refine G_geti (q := 15) cx dX1_peeked_12 rfl cf_1 fl_RX1_15 (Nat.le_of_ble_eq_true rfl) rfl (Nat.le_of_ble_eq_true rfl) ?_
  refine G_icmp_ge (q := 18) (t := 43) cx dX1_peeked_15 rfl (by decide) (fun c2 => ?_) (fun c2 => ?_)
  · refine G_sipush (q := 46) (v := (128 : Int32)) cx dX1_peeked_43 rfl (by decide) ?_
    exact G_zret (ty := .char) cx rfl dX1_peeked_46 rfl rfl
  refine G_aload_n (q := 19) cx dX1_peeked_18 rfl rfl ?_
  refine G_geti (q := 22) cx dX1_peeked_19 rfl cf_1 fl_RX1_19 (Nat.le_of_ble_eq_true rfl) rfl (Nat.le_of_ble_eq_true rfl) ?_
  refine G_aload_n (q := 23) cx dX1_peeked_22 rfl rfl ?_
  refine G_getr (q := 26) (g := 17) (i' := 0) cx dX1_peeked_23 rfl cf_1 fl_RX1_9 (Nat.le_of_ble_eq_true rfl) rfl rfl (Nat.le_of_ble_eq_true rfl) ?_
  refine G_alenB (q := 27) (v := (100 : Int32)) cx dX1_peeked_26 rfl (by decide) rfl (show Int32.ofNat 100 = (100 : Int32) by decide) (Nat.le_of_ble_eq_true rfl) ?_
  refine G_icmp_ge (q := 30) (t := 43) cx dX1_peeked_27 rfl (by decide) (fun c3 => ?_) (fun c3 => ?_)
  · refine G_sipush (q := 46) (v := (128 : Int32)) cx dX1_peeked_43 rfl (by decide) ?_
    exact G_zret (ty := .char) cx rfl dX1_peeked_46 rfl rfl
  refine G_aload_n (q := 31) cx dX1_peeked_30 rfl rfl ?_
  refine G_getr (q := 34) (g := 17) (i' := 0) cx dX1_peeked_31 rfl cf_1 fl_RX1_9 (Nat.le_of_ble_eq_true rfl) rfl rfl (Nat.le_of_ble_eq_true rfl) ?_
  refine G_aload_n (q := 35) cx dX1_peeked_34 rfl rfl ?_
  refine G_geti (q := 38) cx dX1_peeked_35 rfl cf_1 fl_RX1_19 (Nat.le_of_ble_eq_true rfl) rfl (Nat.le_of_ble_eq_true rfl) ?_
  refine G_bald (q := 39) cx dX1_peeked_38 rfl (by decide) rfl rfl (Nat.le_of_ble_eq_true rfl) (fun g4 g5 => ?_)
  refine G_i2c (q := 40) cx dX1_peeked_39 rfl ?_
  refine G_goto (t := 46) cx dX1_peeked_40 (by decide) ?_
  exact G_zret (ty := .char) cx rfl dX1_peeked_46 (pk_nc _) (pk_nc _)
def F_X1_takes (S : St) (a1 : Int32) : Option (Int32 × St) :=
  bnd (F_X1_peeked S) (fun r1 S2 =>
  if r1 = a1 then (some ((1 : Int32), (sI S2 1 0 2 ((gI S2 1 0 2) + (1 : Int32)))))
  else (some ((0 : Int32), S2)))
set_option maxRecDepth 10000 in
theorem c_X1_takes (l : Launch) {D : va_G} {cy : Nat → ClassId} {ad : Nat → Nat → Nat} {k : Nat} (hJ : wJ ad (nX k)) (S : St) (a1 : Int32) : CT l yX1_takes cX1_takes 2 (some .boolean) 1 D cy ad (nX k) toI okZ [.ref (ad 1 0), .int a1] S (F_X1_takes S a1) := by
  refine CT.of RX1 (by decide) rfl hJ (Nat.le_of_ble_eq_true rfl) rfl ?_
  intro p e s m below meth c cx
  unfold F_X1_takes
  refine G_aload_n (q := 1) cx dX1_takes_0 rfl rfl ?_
  refine G_callV (q := 4) (d' := 0) (f := 1) (i := 0) (As := []) (rest := []) (stk := fun r1 => [.int r1]) cx dX1_takes_1 rfl cf_1 (Nat.le_of_ble_eq_true rfl) ml_RX1_39 rfl rfl (Nat.le_of_ble_eq_true rfl) (Nat.le_of_ble_eq_true rfl) (Nat.le_of_ble_eq_true rfl) (c_X1_peeked l hJ _) (fun _ => rfl) (fun r1 S2 h3 o4 => ?_)
  refine G_iload_n (q := 5) cx dX1_takes_4 rfl rfl ?_
  refine G_icmp_eq (q := 8) (t := 10) cx dX1_takes_5 rfl (by decide) (fun c5 => ?_) (fun c5 => ?_)
  · refine G_aload_n (q := 11) cx dX1_takes_10 rfl rfl ?_
    refine G_dup (q := 12) cx dX1_takes_11 rfl rfl ?_
    refine G_geti (q := 15) cx dX1_takes_12 rfl cf_1 fl_RX1_19 (Nat.le_of_ble_eq_true rfl) rfl (Nat.le_of_ble_eq_true rfl) ?_
    refine G_iconst (q := 16) (v := (1 : Int32)) cx dX1_takes_15 rfl (by decide) ?_
    refine G_iadd (q := 17) cx dX1_takes_16 rfl ?_
    refine G_puti (q := 20) cx dX1_takes_17 rfl cf_1 fl_RX1_19 (Nat.le_of_ble_eq_true rfl) rfl rfl rfl rfl rfl (Nat.le_of_ble_eq_true rfl) ?_
    refine G_iconst (q := 21) (v := (1 : Int32)) cx dX1_takes_20 rfl (by decide) ?_
    exact G_zret (ty := .boolean) cx rfl dX1_takes_21 rfl rfl
  · refine G_iconst (q := 9) (v := (0 : Int32)) cx dX1_takes_8 rfl (by decide) ?_
    exact G_zret (ty := .boolean) cx rfl dX1_takes_9 rfl rfl
def F_X0_addStep (S : St) (i0 : Nat) (a1 : Int32) (a2 : Int32) (a3 : Int32) : Option (Unit × St) :=
  if (100 : Int32) ≤ (gI S 0 i0 1) then (some ((), S))
  else (if 0 ≤ (gI S 0 i0 1) ∧ (gI S 0 i0 1).toNatClampNeg < 100 then (some ((), (sI (sI S 16 i0 (gI S 0 i0 1).toNatClampNeg (((a1 * (1000 : Int32)) + (a2 * (100 : Int32))) + a3)) 0 i0 1 ((gI (sI S 16 i0 (gI S 0 i0 1).toNatClampNeg (((a1 * (1000 : Int32)) + (a2 * (100 : Int32))) + a3)) 0 i0 1) + (1 : Int32)))))
  else none)
set_option maxRecDepth 10000 in
theorem c_X0_addStep (l : Launch) {D : va_G} {cy : Nat → ClassId} {ad : Nat → Nat → Nat} {k : Nat} (hJ : wJ ad (nX k)) (S : St) (i0 : Nat) (a1 : Int32) (a2 : Int32) (a3 : Int32) (h_i0 : i0 < 1 + k) : CT l yX0_addStep cX0_addStep 4 none 0 D cy ad (nX k) toU okT [.ref (ad 0 i0), .int a1, .int a2, .int a3] S (F_X0_addStep S i0 a1 a2 a3) := by
  refine CT.of RX0 (by decide) rfl hJ (Nat.le_of_ble_eq_true rfl) rfl ?_
  intro p e s m below meth c cx
  unfold F_X0_addStep
  refine G_aload_n (q := 1) cx dX0_addStep_0 rfl rfl ?_
  refine G_geti (q := 4) cx dX0_addStep_1 rfl cf_0 fl_RX0_15 (Nat.le_of_ble_eq_true rfl) rfl h_i0 ?_
  refine G_aload_n (q := 5) cx dX0_addStep_4 rfl rfl ?_
  refine G_getr (q := 8) (g := 16) (i' := i0) cx dX0_addStep_5 rfl cf_0 fl_RX0_9 (Nat.le_of_ble_eq_true rfl) rfl rfl h_i0 ?_
  refine G_alenI (q := 9) (v := (100 : Int32)) cx dX0_addStep_8 rfl (by decide) rfl (show Int32.ofNat 100 = (100 : Int32) by decide) h_i0 ?_
  refine G_icmp_ge (q := 12) (t := 43) cx dX0_addStep_9 rfl (by decide) (fun c1 => ?_) (fun c1 => ?_)
  · exact G_vret cx rfl dX0_addStep_43 trivial
  refine G_aload_n (q := 13) cx dX0_addStep_12 rfl rfl ?_
  refine G_getr (q := 16) (g := 16) (i' := i0) cx dX0_addStep_13 rfl cf_0 fl_RX0_9 (Nat.le_of_ble_eq_true rfl) rfl rfl h_i0 ?_
  refine G_aload_n (q := 17) cx dX0_addStep_16 rfl rfl ?_
  refine G_geti (q := 20) cx dX0_addStep_17 rfl cf_0 fl_RX0_15 (Nat.le_of_ble_eq_true rfl) rfl h_i0 ?_
  refine G_iload_n (q := 21) cx dX0_addStep_20 rfl rfl ?_
  refine G_sipush (q := 24) (v := (1000 : Int32)) cx dX0_addStep_21 rfl (by decide) ?_
  refine G_imul (q := 25) cx dX0_addStep_24 rfl ?_
  refine G_iload_n (q := 26) cx dX0_addStep_25 rfl rfl ?_
  refine G_bipush (q := 28) (v := (100 : Int32)) cx dX0_addStep_26 rfl (by decide) ?_
  refine G_imul (q := 29) cx dX0_addStep_28 rfl ?_
  refine G_iadd (q := 30) cx dX0_addStep_29 rfl ?_
  refine G_iload_n (q := 31) cx dX0_addStep_30 rfl rfl ?_
  refine G_iadd (q := 32) cx dX0_addStep_31 rfl ?_
  refine G_iast (q := 33) cx dX0_addStep_32 rfl (by decide) rfl rfl h_i0 (fun g2 g3 => ?_)
  refine G_aload_n (q := 34) cx dX0_addStep_33 rfl rfl ?_
  refine G_dup (q := 35) cx dX0_addStep_34 rfl rfl ?_
  refine G_geti (q := 38) cx dX0_addStep_35 rfl cf_0 fl_RX0_15 (Nat.le_of_ble_eq_true rfl) rfl h_i0 ?_
  refine G_iconst (q := 39) (v := (1 : Int32)) cx dX0_addStep_38 rfl (by decide) ?_
  refine G_iadd (q := 40) cx dX0_addStep_39 rfl ?_
  refine G_puti (q := 43) cx dX0_addStep_40 rfl cf_0 fl_RX0_15 (Nat.le_of_ble_eq_true rfl) rfl rfl rfl rfl rfl h_i0 ?_
  exact G_vret cx rfl dX0_addStep_43 trivial
def L_X1_number_4 (K_1 : Int32 → Int32 → St → Option (Int32 × St)) : Nat → Int32 → Int32 → St → Option (Int32 × St)
  | 0, _, _, _ => none
  | n + 1, x1_1, x2_1, S_1 =>
    if (2 : Int32) ≤ x2_1 then (K_1 x1_1 x2_1 S_1)
    else (bnd (F_X1_peeked S_1) (fun r3 S4 =>
    if r3 < (48 : Int32) then (K_1 x1_1 x2_1 S4)
    else (bnd (F_X1_peeked S4) (fun r8 S9 =>
    if (57 : Int32) < r8 then (K_1 x1_1 x2_1 S9)
    else (bnd (F_X1_peeked S9) (fun r13 S14 =>
    L_X1_number_4 K_1 n ((((if x1_1 < (0 : Int32) then (0 : Int32) else x1_1) * (10 : Int32)) + r13) - (48 : Int32)) (x2_1 + 1) (sI S14 1 0 2 ((gI S14 1 0 2) + (1 : Int32)))))))))
def F_X1_number (S : St) : Option (Int32 × St) :=
  L_X1_number_4 
  (fun y1_1 y2_1 T_1 => some (y1_1, T_1)) 1000 (-1 : Int32) (0 : Int32) S
set_option maxRecDepth 10000 in
theorem c_X1_number (l : Launch) {D : va_G} {cy : Nat → ClassId} {ad : Nat → Nat → Nat} {k : Nat} (hJ : wJ ad (nX k)) (S : St) : CT l yX1_number cX1_number 3 (some .int) 1 D cy ad (nX k) toI okT [.ref (ad 1 0)] S (F_X1_number S) := by
  refine CT.of RX1 (by decide) rfl hJ (Nat.le_of_ble_eq_true rfl) rfl ?_
  intro p e s m below meth c cx
  unfold F_X1_number
  refine G_iconst (q := 1) (v := (-1 : Int32)) cx dX1_number_0 rfl (by decide) ?_
  refine G_istore_n (q := 2) (ls' := [(1, .int (-1 : Int32)), (0, .ref (ad 1 0))]) cx dX1_number_1 rfl rfl (Nat.le_of_ble_eq_true rfl) rfl ?_
  refine G_iconst (q := 3) (v := (0 : Int32)) cx dX1_number_2 rfl (by decide) ?_
  refine G_istore_n (q := 4) (ls' := [(2, .int (0 : Int32)), (1, .int (-1 : Int32)), (0, .ref (ad 1 0))]) cx dX1_number_3 rfl rfl (Nat.le_of_ble_eq_true rfl) rfl ?_
  have lp_1 : ∀ (K_1 : Int32 → Int32 → St → Option (Int32 × St)) (hK_1 : ∀ (y1_1 : Int32) (y2_1 : Int32) (T_1 : St), TG p l e 1 s m ([.ref (ad 1 0)] : List Value).toArray below meth c D cy ad (nX k) toI okT T_1 60 [(1, .int y1_1), (2, .int y2_1), (0, .ref (ad 1 0))] [] (K_1 y1_1 y2_1 T_1)), ∀ (n_1 : Nat) (x1_1 : Int32) (x2_1 : Int32) (S_1 : St), TG p l e 1 s m ([.ref (ad 1 0)] : List Value).toArray below meth c D cy ad (nX k) toI okT S_1 4 [(1, .int x1_1), (2, .int x2_1), (0, .ref (ad 1 0))] [] (L_X1_number_4 K_1 n_1 x1_1 x2_1 S_1) := by
    intro K_1 hK_1 n_1
    induction n_1 with
    | zero => intros; exact G_none
    | succ n_1 ih_1 =>
      intro x1_1 x2_1 S_1
      rw [L_X1_number_4.eq_2]
      refine G_iload_n (q := 5) cx dX1_number_4 rfl rfl ?_
      refine G_iconst (q := 6) (v := (2 : Int32)) cx dX1_number_5 rfl (by decide) ?_
      refine G_icmp_ge (q := 9) (t := 60) cx dX1_number_6 rfl (by decide) (fun c2 => ?_) (fun c2 => ?_)
      · exact G_loc [0, 1, 2] rfl (hK_1 x1_1 x2_1 S_1)
      refine G_aload_n (q := 10) cx dX1_number_9 rfl rfl ?_
      refine G_callV (q := 13) (d' := 0) (f := 1) (i := 0) (As := []) (rest := []) (stk := fun r3 => [.int r3]) cx dX1_number_10 rfl cf_1 (Nat.le_of_ble_eq_true rfl) ml_RX1_39 rfl rfl (Nat.le_of_ble_eq_true rfl) (Nat.le_of_ble_eq_true rfl) (Nat.le_of_ble_eq_true rfl) (c_X1_peeked l hJ _) (fun _ => rfl) (fun r3 S4 h5 o6 => ?_)
      refine G_bipush (q := 15) (v := (48 : Int32)) cx dX1_number_13 rfl (by decide) ?_
      refine G_icmp_lt (q := 18) (t := 60) cx dX1_number_15 rfl (by decide) (fun c7 => ?_) (fun c7 => ?_)
      · exact G_loc [0, 1, 2] rfl (hK_1 x1_1 x2_1 S4)
      refine G_aload_n (q := 19) cx dX1_number_18 rfl rfl ?_
      refine G_callV (q := 22) (d' := 0) (f := 1) (i := 0) (As := []) (rest := []) (stk := fun r8 => [.int r8]) cx dX1_number_19 rfl cf_1 (Nat.le_of_ble_eq_true rfl) ml_RX1_39 rfl rfl (Nat.le_of_ble_eq_true rfl) (Nat.le_of_ble_eq_true rfl) (Nat.le_of_ble_eq_true rfl) (c_X1_peeked l hJ _) (fun _ => rfl) (fun r8 S9 h10 o11 => ?_)
      refine G_bipush (q := 24) (v := (57 : Int32)) cx dX1_number_22 rfl (by decide) ?_
      refine G_icmp_gt (q := 27) (t := 60) cx dX1_number_24 rfl (by decide) (fun c12 => ?_) (fun c12 => ?_)
      · exact G_loc [0, 1, 2] rfl (hK_1 x1_1 x2_1 S9)
      refine G_iload_n (q := 28) cx dX1_number_27 rfl rfl ?_
      refine G_iconst (q := 29) (v := (0 : Int32)) cx dX1_number_28 rfl (by decide) ?_
      refine G_mmax (q := 32) cx dX1_number_29 rfl ml_RX1_99 (Nat.le_of_ble_eq_true rfl) (Nat.le_of_ble_eq_true rfl) ?_
      refine G_bipush (q := 34) (v := (10 : Int32)) cx dX1_number_32 rfl (by decide) ?_
      refine G_imul (q := 35) cx dX1_number_34 rfl ?_
      refine G_aload_n (q := 36) cx dX1_number_35 rfl rfl ?_
      refine G_callV (q := 39) (d' := 0) (f := 1) (i := 0) (As := []) (rest := [.int ((if x1_1 < (0 : Int32) then (0 : Int32) else x1_1) * (10 : Int32))]) (stk := fun r13 => [.int r13, .int ((if x1_1 < (0 : Int32) then (0 : Int32) else x1_1) * (10 : Int32))]) cx dX1_number_36 rfl cf_1 (Nat.le_of_ble_eq_true rfl) ml_RX1_39 rfl rfl (Nat.le_of_ble_eq_true rfl) (Nat.le_of_ble_eq_true rfl) (Nat.le_of_ble_eq_true rfl) (c_X1_peeked l hJ _) (fun _ => rfl) (fun r13 S14 h15 o16 => ?_)
      refine G_iadd (q := 40) cx dX1_number_39 rfl ?_
      refine G_bipush (q := 42) (v := (48 : Int32)) cx dX1_number_40 rfl (by decide) ?_
      refine G_isub (q := 43) cx dX1_number_42 rfl ?_
      refine G_istore_n (q := 44) (ls' := [(1, .int ((((if x1_1 < (0 : Int32) then (0 : Int32) else x1_1) * (10 : Int32)) + r13) - (48 : Int32))), (2, .int x2_1), (0, .ref (ad 1 0))]) cx dX1_number_43 rfl rfl (Nat.le_of_ble_eq_true rfl) rfl ?_
      refine G_aload_n (q := 45) cx dX1_number_44 rfl rfl ?_
      refine G_dup (q := 46) cx dX1_number_45 rfl rfl ?_
      refine G_geti (q := 49) cx dX1_number_46 rfl cf_1 fl_RX1_19 (Nat.le_of_ble_eq_true rfl) rfl (Nat.le_of_ble_eq_true rfl) ?_
      refine G_iconst (q := 50) (v := (1 : Int32)) cx dX1_number_49 rfl (by decide) ?_
      refine G_iadd (q := 51) cx dX1_number_50 rfl ?_
      refine G_puti (q := 54) cx dX1_number_51 rfl cf_1 fl_RX1_19 (Nat.le_of_ble_eq_true rfl) rfl rfl rfl rfl rfl (Nat.le_of_ble_eq_true rfl) ?_
      refine G_iinc (q := 57) (j := 1) (v := x2_1 + 1) (ls' := [(2, .int (x2_1 + 1)), (1, .int ((((if x1_1 < (0 : Int32) then (0 : Int32) else x1_1) * (10 : Int32)) + r13) - (48 : Int32))), (0, .ref (ad 1 0))]) cx dX1_number_54 rfl rfl rfl (Nat.le_of_ble_eq_true rfl) rfl ?_
      refine G_goto (t := 4) cx dX1_number_57 (by decide) ?_
      exact G_loc [1, 0, 2] rfl (ih_1 ((((if x1_1 < (0 : Int32) then (0 : Int32) else x1_1) * (10 : Int32)) + r13) - (48 : Int32)) (x2_1 + 1) (sI S14 1 0 2 ((gI S14 1 0 2) + (1 : Int32))))
  refine G_loc [1, 0, 2] rfl (lp_1 _ (fun y1_1 y2_1 T_1 => ?_) 1000 (-1 : Int32) (0 : Int32) S)
  refine G_iload_n (q := 61) cx dX1_number_60 rfl rfl ?_
  exact G_iret cx rfl dX1_number_61 trivial
def F_X1_test (S : St) : Option (Int32 × St) :=
  bnd (F_X1_peeked S) (fun r1 S2 =>
  bnd (F_J0_indexOf_0f7a4 S2 4 r1) (fun r5 S6 =>
  if 0 ≤ r5 then (bnd (F_X1_peeked (sI S6 1 0 2 ((gI S6 1 0 2) + (1 : Int32)))) (fun r10 S11 =>
  bnd (F_J0_indexOf_0f7a4 S11 5 r10) (fun r14 S15 =>
  if 0 ≤ r14 then (bnd (F_X1_number (sI S15 1 0 2 ((gI S15 1 0 2) + (1 : Int32)))) (fun r19 S20 =>
  (gR S20 1 0 3).elim none
  (fun p23 => bnd (F_X0_addStep S20 p23 r5 r14 (if r19 < (0 : Int32) then (0 : Int32) else r19)) (fun r26 S27 =>
  if r19 < 0 then (some ((0 : Int32), S27))
  else (some ((1 : Int32), S27))))))
  else (some ((0 : Int32), S15)))))
  else (some ((0 : Int32), S6))))
set_option maxRecDepth 10000 in
theorem c_X1_test (l : Launch) {D : va_G} {cy : Nat → ClassId} {ad : Nat → Nat → Nat} {k : Nat} (hJ : wJ ad (nX k)) (S : St) : CT l yX1_test cX1_test 4 (some .boolean) 4 D cy ad (nX k) toI okZ [.ref (ad 1 0)] S (F_X1_test S) := by
  refine CT.of RX1 (by decide) rfl hJ (Nat.le_of_ble_eq_true rfl) rfl ?_
  intro p e s m below meth c cx
  unfold F_X1_test
  refine G_ldcS4 (q := 2) cx dX1_test_0 rfl ?_
  refine G_aload_n (q := 3) cx dX1_test_2 rfl rfl ?_
  refine G_callV (q := 6) (d' := 0) (f := 1) (i := 0) (As := []) (rest := [.ref (ad 19 4)]) (stk := fun r1 => [.int r1, .ref (ad 19 4)]) cx dX1_test_3 rfl cf_1 (Nat.le_of_ble_eq_true rfl) ml_RX1_39 rfl rfl (Nat.le_of_ble_eq_true rfl) (Nat.le_of_ble_eq_true rfl) (Nat.le_of_ble_eq_true rfl) (c_X1_peeked l hJ _) (fun _ => rfl) (fun r1 S2 h3 o4 => ?_)
  refine G_callVS (q := 9) (d' := 3) (i := 4) (As := [.int r1]) (rest := []) (stk := fun r5 => [.int r5]) cx dX1_test_6 rfl (Nat.le_of_ble_eq_true rfl) ml_RX1_91 rfl rfl (Nat.le_of_ble_eq_true rfl) (Nat.le_of_ble_eq_true rfl) (Nat.le_of_ble_eq_true rfl) (c_J0_indexOf_0f7a4 l hJ _ 4 r1 (Nat.le_of_ble_eq_true rfl)) (fun _ => rfl) (fun r5 S6 h7 o8 => ?_)
  refine G_istore_n (q := 10) (ls' := [(1, .int r5), (0, .ref (ad 1 0))]) cx dX1_test_9 rfl rfl (Nat.le_of_ble_eq_true rfl) rfl ?_
  refine G_iload_n (q := 11) cx dX1_test_10 rfl rfl ?_
  refine G_if_ge (q := 14) (t := 16) cx dX1_test_11 rfl (by decide) (fun c9 => ?_) (fun c9 => ?_)
  · refine G_aload_n (q := 17) cx dX1_test_16 rfl rfl ?_
    refine G_dup (q := 18) cx dX1_test_17 rfl rfl ?_
    refine G_geti (q := 21) cx dX1_test_18 rfl cf_1 fl_RX1_19 (Nat.le_of_ble_eq_true rfl) rfl (Nat.le_of_ble_eq_true rfl) ?_
    refine G_iconst (q := 22) (v := (1 : Int32)) cx dX1_test_21 rfl (by decide) ?_
    refine G_iadd (q := 23) cx dX1_test_22 rfl ?_
    refine G_puti (q := 26) cx dX1_test_23 rfl cf_1 fl_RX1_19 (Nat.le_of_ble_eq_true rfl) rfl rfl rfl rfl rfl (Nat.le_of_ble_eq_true rfl) ?_
    refine G_ldcS5 (q := 28) cx dX1_test_26 rfl ?_
    refine G_aload_n (q := 29) cx dX1_test_28 rfl rfl ?_
    refine G_callV (q := 32) (d' := 0) (f := 1) (i := 0) (As := []) (rest := [.ref (ad 19 5)]) (stk := fun r10 => [.int r10, .ref (ad 19 5)]) cx dX1_test_29 rfl cf_1 (Nat.le_of_ble_eq_true rfl) ml_RX1_39 rfl rfl (Nat.le_of_ble_eq_true rfl) (Nat.le_of_ble_eq_true rfl) (Nat.le_of_ble_eq_true rfl) (c_X1_peeked l hJ _) (fun _ => rfl) (fun r10 S11 h12 o13 => ?_)
    refine G_callVS (q := 35) (d' := 3) (i := 5) (As := [.int r10]) (rest := []) (stk := fun r14 => [.int r14]) cx dX1_test_32 rfl (Nat.le_of_ble_eq_true rfl) ml_RX1_91 rfl rfl (Nat.le_of_ble_eq_true rfl) (Nat.le_of_ble_eq_true rfl) (Nat.le_of_ble_eq_true rfl) (c_J0_indexOf_0f7a4 l hJ _ 5 r10 (Nat.le_of_ble_eq_true rfl)) (fun _ => rfl) (fun r14 S15 h16 o17 => ?_)
    refine G_istore_n (q := 36) (ls' := [(2, .int r14), (1, .int r5), (0, .ref (ad 1 0))]) cx dX1_test_35 rfl rfl (Nat.le_of_ble_eq_true rfl) rfl ?_
    refine G_iload_n (q := 37) cx dX1_test_36 rfl rfl ?_
    refine G_if_ge (q := 40) (t := 42) cx dX1_test_37 rfl (by decide) (fun c18 => ?_) (fun c18 => ?_)
    · refine G_aload_n (q := 43) cx dX1_test_42 rfl rfl ?_
      refine G_dup (q := 44) cx dX1_test_43 rfl rfl ?_
      refine G_geti (q := 47) cx dX1_test_44 rfl cf_1 fl_RX1_19 (Nat.le_of_ble_eq_true rfl) rfl (Nat.le_of_ble_eq_true rfl) ?_
      refine G_iconst (q := 48) (v := (1 : Int32)) cx dX1_test_47 rfl (by decide) ?_
      refine G_iadd (q := 49) cx dX1_test_48 rfl ?_
      refine G_puti (q := 52) cx dX1_test_49 rfl cf_1 fl_RX1_19 (Nat.le_of_ble_eq_true rfl) rfl rfl rfl rfl rfl (Nat.le_of_ble_eq_true rfl) ?_
      refine G_aload_n (q := 53) cx dX1_test_52 rfl rfl ?_
      refine G_callV (q := 56) (d' := 1) (f := 1) (i := 0) (As := []) (rest := []) (stk := fun r19 => [.int r19]) cx dX1_test_53 rfl cf_1 (Nat.le_of_ble_eq_true rfl) ml_RX1_51 rfl rfl (Nat.le_of_ble_eq_true rfl) (Nat.le_of_ble_eq_true rfl) (Nat.le_of_ble_eq_true rfl) (c_X1_number l hJ _) (fun _ => rfl) (fun r19 S20 h21 o22 => ?_)
      refine G_istore_n (q := 57) (ls' := [(3, .int r19), (2, .int r14), (1, .int r5), (0, .ref (ad 1 0))]) cx dX1_test_56 rfl rfl (Nat.le_of_ble_eq_true rfl) rfl ?_
      refine G_aload_n (q := 58) cx dX1_test_57 rfl rfl ?_
      refine G_geta (q := 61) cx dX1_test_58 rfl cf_1 fl_RX1_22 (Nat.le_of_ble_eq_true rfl) rfl (Nat.le_of_ble_eq_true rfl) (fun e24 => ?_) (fun p23 e25 h_p23 => ?_)
      · exact G_none
      refine G_iload_n (q := 62) cx dX1_test_61 rfl rfl ?_
      refine G_iload_n (q := 63) cx dX1_test_62 rfl rfl ?_
      refine G_iload_n (q := 64) cx dX1_test_63 rfl rfl ?_
      refine G_iconst (q := 65) (v := (0 : Int32)) cx dX1_test_64 rfl (by decide) ?_
      refine G_mmax (q := 68) cx dX1_test_65 rfl ml_RX1_99 (Nat.le_of_ble_eq_true rfl) (Nat.le_of_ble_eq_true rfl) ?_
      refine G_callV (q := 71) (d' := 0) (f := 0) (i := p23) (As := [.int r5, .int r14, .int (if r19 < (0 : Int32) then (0 : Int32) else r19)]) (rest := []) (stk := fun _ => []) cx dX1_test_68 rfl cf_0 h_p23 ml_RX1_71 rfl rfl (Nat.le_of_ble_eq_true rfl) (Nat.le_of_ble_eq_true rfl) (Nat.le_of_ble_eq_true rfl) (c_X0_addStep l hJ _ p23 r5 r14 (if r19 < (0 : Int32) then (0 : Int32) else r19) h_p23) (fun _ => rfl) (fun r26 S27 h28 o29 => ?_)
      refine G_iload_n (q := 72) cx dX1_test_71 rfl rfl ?_
      refine G_if_lt (q := 75) (t := 79) cx dX1_test_72 rfl (by decide) (fun c30 => ?_) (fun c30 => ?_)
      · refine G_iconst (q := 80) (v := (0 : Int32)) cx dX1_test_79 rfl (by decide) ?_
        exact G_zret (ty := .boolean) cx rfl dX1_test_80 rfl rfl
      · refine G_iconst (q := 76) (v := (1 : Int32)) cx dX1_test_75 rfl (by decide) ?_
        refine G_goto (t := 80) cx dX1_test_76 (by decide) ?_
        exact G_zret (ty := .boolean) cx rfl dX1_test_80 rfl rfl
    · refine G_iconst (q := 41) (v := (0 : Int32)) cx dX1_test_40 rfl (by decide) ?_
      exact G_zret (ty := .boolean) cx rfl dX1_test_41 rfl rfl
  · refine G_iconst (q := 15) (v := (0 : Int32)) cx dX1_test_14 rfl (by decide) ?_
    exact G_zret (ty := .boolean) cx rfl dX1_test_15 rfl rfl
def L_X1_expression_14 (a1 : Int32) (fac : St → Int32 → Option (Int32 × St)) (K_6 : Int32 → Int32 → St → Option (Int32 × St)) : Nat → Int32 → Int32 → St → Option (Int32 × St)
  | 0, _, _, _ => none
  | n + 1, x2_6, x3_6, S_6 =>
    if (100 : Int32) ≤ x3_6 then (K_6 x2_6 x3_6 S_6)
    else (bnd (F_X1_peeked S_6) (fun r16 S17 =>
    if r16 = (38 : Int32) then (bnd (F_X1_takes S17 (38 : Int32)) (fun r21 S22 =>
    if r21 = 0 then (if x2_6 = 0 then (bnd (fac (sI S22 1 0 2 ((gI S22 1 0 2) + (1 : Int32))) a1) (fun r40 S41 =>
    if r40 = 0 then (some ((0 : Int32), S41))
    else (if r21 = 0 then (L_X1_expression_14 a1 fac K_6 n (1 : Int32) (x3_6 + 1) S41)
    else ((gR S41 1 0 3).elim none
    (fun p46 => bnd (F_X0_addStep S41 p46 (7 : Int32) (0 : Int32) (0 : Int32)) (fun r49 S50 =>
    L_X1_expression_14 a1 fac K_6 n (1 : Int32) (x3_6 + 1) S50))))))
    else ((gR (sI S22 1 0 2 ((gI S22 1 0 2) + (1 : Int32))) 1 0 3).elim none
    (fun p53 => bnd (F_X0_addStep (sI S22 1 0 2 ((gI S22 1 0 2) + (1 : Int32))) p53 (8 : Int32) (0 : Int32) (0 : Int32)) (fun r56 S57 =>
    bnd (fac S57 a1) (fun r60 S61 =>
    if r60 = 0 then (some ((0 : Int32), S61))
    else (if r21 = 0 then (L_X1_expression_14 a1 fac K_6 n (1 : Int32) (x3_6 + 1) S61)
    else ((gR S61 1 0 3).elim none
    (fun p66 => bnd (F_X0_addStep S61 p66 (7 : Int32) (0 : Int32) (0 : Int32)) (fun r69 S70 =>
    L_X1_expression_14 a1 fac K_6 n (1 : Int32) (x3_6 + 1) S70)))))))))
    else (bnd (fac S22 a1) (fun r26 S27 =>
    if r26 = 0 then (some ((0 : Int32), S27))
    else (if r21 = 0 then (L_X1_expression_14 a1 fac K_6 n x2_6 (x3_6 + 1) S27)
    else ((gR S27 1 0 3).elim none
    (fun p32 => bnd (F_X0_addStep S27 p32 (7 : Int32) (0 : Int32) (0 : Int32)) (fun r35 S36 =>
    L_X1_expression_14 a1 fac K_6 n x2_6 (x3_6 + 1) S36))))))))
    else (bnd (F_X1_peeked S17) (fun r73 S74 =>
    if r73 = (124 : Int32) then (bnd (F_X1_takes S74 (38 : Int32)) (fun r78 S79 =>
    if r78 = 0 then (if x2_6 = 0 then (bnd (fac (sI S79 1 0 2 ((gI S79 1 0 2) + (1 : Int32))) a1) (fun r97 S98 =>
    if r97 = 0 then (some ((0 : Int32), S98))
    else (if r78 = 0 then (L_X1_expression_14 a1 fac K_6 n (1 : Int32) (x3_6 + 1) S98)
    else ((gR S98 1 0 3).elim none
    (fun p103 => bnd (F_X0_addStep S98 p103 (7 : Int32) (0 : Int32) (0 : Int32)) (fun r106 S107 =>
    L_X1_expression_14 a1 fac K_6 n (1 : Int32) (x3_6 + 1) S107))))))
    else ((gR (sI S79 1 0 2 ((gI S79 1 0 2) + (1 : Int32))) 1 0 3).elim none
    (fun p110 => bnd (F_X0_addStep (sI S79 1 0 2 ((gI S79 1 0 2) + (1 : Int32))) p110 (8 : Int32) (0 : Int32) (0 : Int32)) (fun r113 S114 =>
    bnd (fac S114 a1) (fun r117 S118 =>
    if r117 = 0 then (some ((0 : Int32), S118))
    else (if r78 = 0 then (L_X1_expression_14 a1 fac K_6 n (1 : Int32) (x3_6 + 1) S118)
    else ((gR S118 1 0 3).elim none
    (fun p123 => bnd (F_X0_addStep S118 p123 (7 : Int32) (0 : Int32) (0 : Int32)) (fun r126 S127 =>
    L_X1_expression_14 a1 fac K_6 n (1 : Int32) (x3_6 + 1) S127)))))))))
    else (bnd (fac S79 a1) (fun r83 S84 =>
    if r83 = 0 then (some ((0 : Int32), S84))
    else (if r78 = 0 then (L_X1_expression_14 a1 fac K_6 n x2_6 (x3_6 + 1) S84)
    else ((gR S84 1 0 3).elim none
    (fun p89 => bnd (F_X0_addStep S84 p89 (7 : Int32) (0 : Int32) (0 : Int32)) (fun r92 S93 =>
    L_X1_expression_14 a1 fac K_6 n x2_6 (x3_6 + 1) S93))))))))
    else (K_6 x2_6 x3_6 S74)))))
def F_X1_expression (fac : St → Int32 → Option (Int32 × St)) (S : St) (a1 : Int32) : Option (Int32 × St) :=
  bnd (fac S a1) (fun r1 S2 =>
  if r1 = 0 then (some ((0 : Int32), S2))
  else (L_X1_expression_14 a1 fac 
  (fun y2_6 y3_6 T_6 => if y2_6 = 0 then (some ((1 : Int32), T_6))
  else ((gR T_6 1 0 3).elim none
  (fun p8 => bnd (F_X0_addStep T_6 p8 (8 : Int32) (0 : Int32) (0 : Int32)) (fun r11 S12 =>
  some ((1 : Int32), S12))))) 1000 (0 : Int32) (0 : Int32) S2))
set_option maxRecDepth 10000 in
theorem c_X1_expression (l : Launch) {D : va_G} {cy : Nat → ClassId} {ad : Nat → Nat → Nat} {k : Nat} (hJ : wJ ad (nX k)) (fac : St → Int32 → Option (Int32 × St)) (dF : Nat) (hdF : 2 ≤ dF) (hfac : ∀ S w, CT l yX1_factor cX1_factor 2 (some .boolean) dF D cy ad (nX k) toI okZ [.ref (ad 1 0), .int w] S (fac S w)) (S : St) (a1 : Int32) : CT l yX1_expression cX1_expression 5 (some .boolean) (dF + 1) D cy ad (nX k) toI okZ [.ref (ad 1 0), .int a1] S (F_X1_expression fac S a1) := by
  refine CT.of RX1 (by decide) rfl hJ (Nat.le_of_ble_eq_true rfl) rfl ?_
  intro p e s m below meth c cx
  unfold F_X1_expression
  refine G_iconst (q := 1) (v := (0 : Int32)) cx dX1_expression_0 rfl (by decide) ?_
  refine G_istore_n (q := 2) (ls' := [(2, .int (0 : Int32)), (0, .ref (ad 1 0)), (1, .int a1)]) cx dX1_expression_1 rfl rfl (Nat.le_of_ble_eq_true rfl) rfl ?_
  refine G_aload_n (q := 3) cx dX1_expression_2 rfl rfl ?_
  refine G_iload_n (q := 4) cx dX1_expression_3 rfl rfl ?_
  refine G_callV (q := 7) (d' := dF) (f := 1) (i := 0) (As := [.int a1]) (rest := []) (stk := fun r1 => [.int r1]) cx dX1_expression_4 rfl cf_1 (Nat.le_of_ble_eq_true rfl) ml_RX1_83 rfl rfl (Nat.le_of_ble_eq_true rfl) (by omega) (Nat.le_of_ble_eq_true rfl) (hfac _ a1) (fun _ => rfl) (fun r1 S2 h3 o4 => ?_)
  refine G_if_ne (q := 10) (t := 12) cx dX1_expression_7 rfl (by decide) (fun c5 => ?_) (fun c5 => ?_)
  · refine G_iconst (q := 13) (v := (0 : Int32)) cx dX1_expression_12 rfl (by decide) ?_
    refine G_istore_n (q := 14) (ls' := [(3, .int (0 : Int32)), (2, .int (0 : Int32)), (0, .ref (ad 1 0)), (1, .int a1)]) cx dX1_expression_13 rfl rfl (Nat.le_of_ble_eq_true rfl) rfl ?_
    have lp_6 : ∀ (K_6 : Int32 → Int32 → St → Option (Int32 × St)) (hK_6 : ∀ (y2_6 : Int32) (y3_6 : Int32) (T_6 : St), TG p l e (dF + 1) s m ([.ref (ad 1 0), .int a1] : List Value).toArray below meth c D cy ad (nX k) toI okZ T_6 110 [(2, .int y2_6), (3, .int y3_6), (0, .ref (ad 1 0)), (1, .int a1)] [] (K_6 y2_6 y3_6 T_6)), ∀ (n_6 : Nat) (x2_6 : Int32) (x3_6 : Int32) (S_6 : St), TG p l e (dF + 1) s m ([.ref (ad 1 0), .int a1] : List Value).toArray below meth c D cy ad (nX k) toI okZ S_6 14 [(2, .int x2_6), (3, .int x3_6), (0, .ref (ad 1 0)), (1, .int a1)] [] (L_X1_expression_14 a1 fac K_6 n_6 x2_6 x3_6 S_6) := by
      intro K_6 hK_6 n_6
      induction n_6 with
      | zero => intros; exact G_none
      | succ n_6 ih_6 =>
        intro x2_6 x3_6 S_6
        rw [L_X1_expression_14.eq_2]
        refine G_iload_n (q := 15) cx dX1_expression_14 rfl rfl ?_
        refine G_bipush (q := 17) (v := (100 : Int32)) cx dX1_expression_15 rfl (by decide) ?_
        refine G_icmp_ge (q := 20) (t := 110) cx dX1_expression_17 rfl (by decide) (fun c15 => ?_) (fun c15 => ?_)
        · exact G_loc [0, 1, 2, 3] rfl (hK_6 x2_6 x3_6 S_6)
        refine G_aload_n (q := 21) cx dX1_expression_20 rfl rfl ?_
        refine G_callV (q := 24) (d' := 0) (f := 1) (i := 0) (As := []) (rest := []) (stk := fun r16 => [.int r16]) cx dX1_expression_21 rfl cf_1 (Nat.le_of_ble_eq_true rfl) ml_RX1_39 rfl rfl (Nat.le_of_ble_eq_true rfl) (by omega) (Nat.le_of_ble_eq_true rfl) (c_X1_peeked l hJ _) (fun _ => rfl) (fun r16 S17 h18 o19 => ?_)
        refine G_bipush (q := 26) (v := (38 : Int32)) cx dX1_expression_24 rfl (by decide) ?_
        refine G_icmp_eq (q := 29) (t := 38) cx dX1_expression_26 rfl (by decide) (fun c20 => ?_) (fun c20 => ?_)
        · refine G_aload_n (q := 39) cx dX1_expression_38 rfl rfl ?_
          refine G_bipush (q := 41) (v := (38 : Int32)) cx dX1_expression_39 rfl (by decide) ?_
          refine G_callV (q := 44) (d' := 1) (f := 1) (i := 0) (As := [.int (38 : Int32)]) (rest := []) (stk := fun r21 => [.int r21]) cx dX1_expression_41 rfl cf_1 (Nat.le_of_ble_eq_true rfl) ml_RX1_35 rfl rfl (Nat.le_of_ble_eq_true rfl) (by omega) (Nat.le_of_ble_eq_true rfl) (c_X1_takes l hJ _ (38 : Int32)) (fun _ => rfl) (fun r21 S22 h23 o24 => ?_)
          refine G_istore (q := 46) (ls' := [(4, .int r21), (2, .int x2_6), (3, .int x3_6), (0, .ref (ad 1 0)), (1, .int a1)]) cx dX1_expression_44 rfl (Nat.le_of_ble_eq_true rfl) rfl ?_
          refine G_iload (q := 48) cx dX1_expression_46 rfl rfl ?_
          refine G_if_ne (q := 51) (t := 78) cx dX1_expression_48 rfl (by decide) (fun c25 => ?_) (fun c25 => ?_)
          · refine G_aload_n (q := 79) cx dX1_expression_78 rfl rfl ?_
            refine G_iload_n (q := 80) cx dX1_expression_79 rfl rfl ?_
            refine G_callV (q := 83) (d' := dF) (f := 1) (i := 0) (As := [.int a1]) (rest := []) (stk := fun r26 => [.int r26]) cx dX1_expression_80 rfl cf_1 (Nat.le_of_ble_eq_true rfl) ml_RX1_83 rfl rfl (Nat.le_of_ble_eq_true rfl) (by omega) (Nat.le_of_ble_eq_true rfl) (hfac _ a1) (fun _ => rfl) (fun r26 S27 h28 o29 => ?_)
            refine G_if_ne (q := 86) (t := 88) cx dX1_expression_83 rfl (by decide) (fun c30 => ?_) (fun c30 => ?_)
            · refine G_iload (q := 90) cx dX1_expression_88 rfl rfl ?_
              refine G_if_eq (q := 93) (t := 104) cx dX1_expression_90 rfl (by decide) (fun c31 => ?_) (fun c31 => ?_)
              · refine G_iinc (q := 107) (j := 2) (v := x3_6 + 1) (ls' := [(3, .int (x3_6 + 1)), (4, .int r21), (2, .int x2_6), (0, .ref (ad 1 0)), (1, .int a1)]) cx dX1_expression_104 rfl rfl rfl (Nat.le_of_ble_eq_true rfl) rfl ?_
                refine G_goto (t := 14) cx dX1_expression_107 (by decide) ?_
                exact G_loc [2, 0, 3, 4] rfl (ih_6 x2_6 (x3_6 + 1) S27)
              refine G_aload_n (q := 94) cx dX1_expression_93 rfl rfl ?_
              refine G_geta (q := 97) cx dX1_expression_94 rfl cf_1 fl_RX1_22 (Nat.le_of_ble_eq_true rfl) rfl (Nat.le_of_ble_eq_true rfl) (fun e33 => ?_) (fun p32 e34 h_p32 => ?_)
              · exact G_none
              refine G_bipush (q := 99) (v := (7 : Int32)) cx dX1_expression_97 rfl (by decide) ?_
              refine G_iconst (q := 100) (v := (0 : Int32)) cx dX1_expression_99 rfl (by decide) ?_
              refine G_iconst (q := 101) (v := (0 : Int32)) cx dX1_expression_100 rfl (by decide) ?_
              refine G_callV (q := 104) (d' := 0) (f := 0) (i := p32) (As := [.int (7 : Int32), .int (0 : Int32), .int (0 : Int32)]) (rest := []) (stk := fun _ => []) cx dX1_expression_101 rfl cf_0 h_p32 ml_RX1_71 rfl rfl (Nat.le_of_ble_eq_true rfl) (by omega) (Nat.le_of_ble_eq_true rfl) (c_X0_addStep l hJ _ p32 (7 : Int32) (0 : Int32) (0 : Int32) h_p32) (fun _ => rfl) (fun r35 S36 h37 o38 => ?_)
              refine G_iinc (q := 107) (j := 2) (v := x3_6 + 1) (ls' := [(3, .int (x3_6 + 1)), (4, .int r21), (2, .int x2_6), (0, .ref (ad 1 0)), (1, .int a1)]) cx dX1_expression_104 rfl rfl rfl (Nat.le_of_ble_eq_true rfl) rfl ?_
              refine G_goto (t := 14) cx dX1_expression_107 (by decide) ?_
              exact G_loc [2, 0, 3, 4] rfl (ih_6 x2_6 (x3_6 + 1) S36)
            · refine G_iconst (q := 87) (v := (0 : Int32)) cx dX1_expression_86 rfl (by decide) ?_
              exact G_zret (ty := .boolean) cx rfl dX1_expression_87 rfl rfl
          refine G_aload_n (q := 52) cx dX1_expression_51 rfl rfl ?_
          refine G_dup (q := 53) cx dX1_expression_52 rfl rfl ?_
          refine G_geti (q := 56) cx dX1_expression_53 rfl cf_1 fl_RX1_19 (Nat.le_of_ble_eq_true rfl) rfl (Nat.le_of_ble_eq_true rfl) ?_
          refine G_iconst (q := 57) (v := (1 : Int32)) cx dX1_expression_56 rfl (by decide) ?_
          refine G_iadd (q := 58) cx dX1_expression_57 rfl ?_
          refine G_puti (q := 61) cx dX1_expression_58 rfl cf_1 fl_RX1_19 (Nat.le_of_ble_eq_true rfl) rfl rfl rfl rfl rfl (Nat.le_of_ble_eq_true rfl) ?_
          refine G_iload_n (q := 62) cx dX1_expression_61 rfl rfl ?_
          refine G_if_eq (q := 65) (t := 76) cx dX1_expression_62 rfl (by decide) (fun c39 => ?_) (fun c39 => ?_)
          · refine G_iconst (q := 77) (v := (1 : Int32)) cx dX1_expression_76 rfl (by decide) ?_
            refine G_istore_n (q := 78) (ls' := [(2, .int (1 : Int32)), (4, .int r21), (3, .int x3_6), (0, .ref (ad 1 0)), (1, .int a1)]) cx dX1_expression_77 rfl rfl (Nat.le_of_ble_eq_true rfl) rfl ?_
            refine G_aload_n (q := 79) cx dX1_expression_78 rfl rfl ?_
            refine G_iload_n (q := 80) cx dX1_expression_79 rfl rfl ?_
            refine G_callV (q := 83) (d' := dF) (f := 1) (i := 0) (As := [.int a1]) (rest := []) (stk := fun r40 => [.int r40]) cx dX1_expression_80 rfl cf_1 (Nat.le_of_ble_eq_true rfl) ml_RX1_83 rfl rfl (Nat.le_of_ble_eq_true rfl) (by omega) (Nat.le_of_ble_eq_true rfl) (hfac _ a1) (fun _ => rfl) (fun r40 S41 h42 o43 => ?_)
            refine G_if_ne (q := 86) (t := 88) cx dX1_expression_83 rfl (by decide) (fun c44 => ?_) (fun c44 => ?_)
            · refine G_iload (q := 90) cx dX1_expression_88 rfl rfl ?_
              refine G_if_eq (q := 93) (t := 104) cx dX1_expression_90 rfl (by decide) (fun c45 => ?_) (fun c45 => ?_)
              · refine G_iinc (q := 107) (j := 2) (v := x3_6 + 1) (ls' := [(3, .int (x3_6 + 1)), (2, .int (1 : Int32)), (4, .int r21), (0, .ref (ad 1 0)), (1, .int a1)]) cx dX1_expression_104 rfl rfl rfl (Nat.le_of_ble_eq_true rfl) rfl ?_
                refine G_goto (t := 14) cx dX1_expression_107 (by decide) ?_
                exact G_loc [1, 0, 3, 4] rfl (ih_6 (1 : Int32) (x3_6 + 1) S41)
              refine G_aload_n (q := 94) cx dX1_expression_93 rfl rfl ?_
              refine G_geta (q := 97) cx dX1_expression_94 rfl cf_1 fl_RX1_22 (Nat.le_of_ble_eq_true rfl) rfl (Nat.le_of_ble_eq_true rfl) (fun e47 => ?_) (fun p46 e48 h_p46 => ?_)
              · exact G_none
              refine G_bipush (q := 99) (v := (7 : Int32)) cx dX1_expression_97 rfl (by decide) ?_
              refine G_iconst (q := 100) (v := (0 : Int32)) cx dX1_expression_99 rfl (by decide) ?_
              refine G_iconst (q := 101) (v := (0 : Int32)) cx dX1_expression_100 rfl (by decide) ?_
              refine G_callV (q := 104) (d' := 0) (f := 0) (i := p46) (As := [.int (7 : Int32), .int (0 : Int32), .int (0 : Int32)]) (rest := []) (stk := fun _ => []) cx dX1_expression_101 rfl cf_0 h_p46 ml_RX1_71 rfl rfl (Nat.le_of_ble_eq_true rfl) (by omega) (Nat.le_of_ble_eq_true rfl) (c_X0_addStep l hJ _ p46 (7 : Int32) (0 : Int32) (0 : Int32) h_p46) (fun _ => rfl) (fun r49 S50 h51 o52 => ?_)
              refine G_iinc (q := 107) (j := 2) (v := x3_6 + 1) (ls' := [(3, .int (x3_6 + 1)), (2, .int (1 : Int32)), (4, .int r21), (0, .ref (ad 1 0)), (1, .int a1)]) cx dX1_expression_104 rfl rfl rfl (Nat.le_of_ble_eq_true rfl) rfl ?_
              refine G_goto (t := 14) cx dX1_expression_107 (by decide) ?_
              exact G_loc [1, 0, 3, 4] rfl (ih_6 (1 : Int32) (x3_6 + 1) S50)
            · refine G_iconst (q := 87) (v := (0 : Int32)) cx dX1_expression_86 rfl (by decide) ?_
              exact G_zret (ty := .boolean) cx rfl dX1_expression_87 rfl rfl
          refine G_aload_n (q := 66) cx dX1_expression_65 rfl rfl ?_
          refine G_geta (q := 69) cx dX1_expression_66 rfl cf_1 fl_RX1_22 (Nat.le_of_ble_eq_true rfl) rfl (Nat.le_of_ble_eq_true rfl) (fun e54 => ?_) (fun p53 e55 h_p53 => ?_)
          · exact G_none
          refine G_bipush (q := 71) (v := (8 : Int32)) cx dX1_expression_69 rfl (by decide) ?_
          refine G_iconst (q := 72) (v := (0 : Int32)) cx dX1_expression_71 rfl (by decide) ?_
          refine G_iconst (q := 73) (v := (0 : Int32)) cx dX1_expression_72 rfl (by decide) ?_
          refine G_callV (q := 76) (d' := 0) (f := 0) (i := p53) (As := [.int (8 : Int32), .int (0 : Int32), .int (0 : Int32)]) (rest := []) (stk := fun _ => []) cx dX1_expression_73 rfl cf_0 h_p53 ml_RX1_71 rfl rfl (Nat.le_of_ble_eq_true rfl) (by omega) (Nat.le_of_ble_eq_true rfl) (c_X0_addStep l hJ _ p53 (8 : Int32) (0 : Int32) (0 : Int32) h_p53) (fun _ => rfl) (fun r56 S57 h58 o59 => ?_)
          refine G_iconst (q := 77) (v := (1 : Int32)) cx dX1_expression_76 rfl (by decide) ?_
          refine G_istore_n (q := 78) (ls' := [(2, .int (1 : Int32)), (4, .int r21), (3, .int x3_6), (0, .ref (ad 1 0)), (1, .int a1)]) cx dX1_expression_77 rfl rfl (Nat.le_of_ble_eq_true rfl) rfl ?_
          refine G_aload_n (q := 79) cx dX1_expression_78 rfl rfl ?_
          refine G_iload_n (q := 80) cx dX1_expression_79 rfl rfl ?_
          refine G_callV (q := 83) (d' := dF) (f := 1) (i := 0) (As := [.int a1]) (rest := []) (stk := fun r60 => [.int r60]) cx dX1_expression_80 rfl cf_1 (Nat.le_of_ble_eq_true rfl) ml_RX1_83 rfl rfl (Nat.le_of_ble_eq_true rfl) (by omega) (Nat.le_of_ble_eq_true rfl) (hfac _ a1) (fun _ => rfl) (fun r60 S61 h62 o63 => ?_)
          refine G_if_ne (q := 86) (t := 88) cx dX1_expression_83 rfl (by decide) (fun c64 => ?_) (fun c64 => ?_)
          · refine G_iload (q := 90) cx dX1_expression_88 rfl rfl ?_
            refine G_if_eq (q := 93) (t := 104) cx dX1_expression_90 rfl (by decide) (fun c65 => ?_) (fun c65 => ?_)
            · refine G_iinc (q := 107) (j := 2) (v := x3_6 + 1) (ls' := [(3, .int (x3_6 + 1)), (2, .int (1 : Int32)), (4, .int r21), (0, .ref (ad 1 0)), (1, .int a1)]) cx dX1_expression_104 rfl rfl rfl (Nat.le_of_ble_eq_true rfl) rfl ?_
              refine G_goto (t := 14) cx dX1_expression_107 (by decide) ?_
              exact G_loc [1, 0, 3, 4] rfl (ih_6 (1 : Int32) (x3_6 + 1) S61)
            refine G_aload_n (q := 94) cx dX1_expression_93 rfl rfl ?_
            refine G_geta (q := 97) cx dX1_expression_94 rfl cf_1 fl_RX1_22 (Nat.le_of_ble_eq_true rfl) rfl (Nat.le_of_ble_eq_true rfl) (fun e67 => ?_) (fun p66 e68 h_p66 => ?_)
            · exact G_none
            refine G_bipush (q := 99) (v := (7 : Int32)) cx dX1_expression_97 rfl (by decide) ?_
            refine G_iconst (q := 100) (v := (0 : Int32)) cx dX1_expression_99 rfl (by decide) ?_
            refine G_iconst (q := 101) (v := (0 : Int32)) cx dX1_expression_100 rfl (by decide) ?_
            refine G_callV (q := 104) (d' := 0) (f := 0) (i := p66) (As := [.int (7 : Int32), .int (0 : Int32), .int (0 : Int32)]) (rest := []) (stk := fun _ => []) cx dX1_expression_101 rfl cf_0 h_p66 ml_RX1_71 rfl rfl (Nat.le_of_ble_eq_true rfl) (by omega) (Nat.le_of_ble_eq_true rfl) (c_X0_addStep l hJ _ p66 (7 : Int32) (0 : Int32) (0 : Int32) h_p66) (fun _ => rfl) (fun r69 S70 h71 o72 => ?_)
            refine G_iinc (q := 107) (j := 2) (v := x3_6 + 1) (ls' := [(3, .int (x3_6 + 1)), (2, .int (1 : Int32)), (4, .int r21), (0, .ref (ad 1 0)), (1, .int a1)]) cx dX1_expression_104 rfl rfl rfl (Nat.le_of_ble_eq_true rfl) rfl ?_
            refine G_goto (t := 14) cx dX1_expression_107 (by decide) ?_
            exact G_loc [1, 0, 3, 4] rfl (ih_6 (1 : Int32) (x3_6 + 1) S70)
          · refine G_iconst (q := 87) (v := (0 : Int32)) cx dX1_expression_86 rfl (by decide) ?_
            exact G_zret (ty := .boolean) cx rfl dX1_expression_87 rfl rfl
        refine G_aload_n (q := 30) cx dX1_expression_29 rfl rfl ?_
        refine G_callV (q := 33) (d' := 0) (f := 1) (i := 0) (As := []) (rest := []) (stk := fun r73 => [.int r73]) cx dX1_expression_30 rfl cf_1 (Nat.le_of_ble_eq_true rfl) ml_RX1_39 rfl rfl (Nat.le_of_ble_eq_true rfl) (by omega) (Nat.le_of_ble_eq_true rfl) (c_X1_peeked l hJ _) (fun _ => rfl) (fun r73 S74 h75 o76 => ?_)
        refine G_bipush (q := 35) (v := (124 : Int32)) cx dX1_expression_33 rfl (by decide) ?_
        refine G_icmp_ne (q := 38) (t := 110) cx dX1_expression_35 rfl (by decide) (fun c77 => ?_) (fun c77 => ?_)
        · exact G_loc [0, 1, 2, 3] rfl (hK_6 x2_6 x3_6 S74)
        refine G_aload_n (q := 39) cx dX1_expression_38 rfl rfl ?_
        refine G_bipush (q := 41) (v := (38 : Int32)) cx dX1_expression_39 rfl (by decide) ?_
        refine G_callV (q := 44) (d' := 1) (f := 1) (i := 0) (As := [.int (38 : Int32)]) (rest := []) (stk := fun r78 => [.int r78]) cx dX1_expression_41 rfl cf_1 (Nat.le_of_ble_eq_true rfl) ml_RX1_35 rfl rfl (Nat.le_of_ble_eq_true rfl) (by omega) (Nat.le_of_ble_eq_true rfl) (c_X1_takes l hJ _ (38 : Int32)) (fun _ => rfl) (fun r78 S79 h80 o81 => ?_)
        refine G_istore (q := 46) (ls' := [(4, .int r78), (2, .int x2_6), (3, .int x3_6), (0, .ref (ad 1 0)), (1, .int a1)]) cx dX1_expression_44 rfl (Nat.le_of_ble_eq_true rfl) rfl ?_
        refine G_iload (q := 48) cx dX1_expression_46 rfl rfl ?_
        refine G_if_ne (q := 51) (t := 78) cx dX1_expression_48 rfl (by decide) (fun c82 => ?_) (fun c82 => ?_)
        · refine G_aload_n (q := 79) cx dX1_expression_78 rfl rfl ?_
          refine G_iload_n (q := 80) cx dX1_expression_79 rfl rfl ?_
          refine G_callV (q := 83) (d' := dF) (f := 1) (i := 0) (As := [.int a1]) (rest := []) (stk := fun r83 => [.int r83]) cx dX1_expression_80 rfl cf_1 (Nat.le_of_ble_eq_true rfl) ml_RX1_83 rfl rfl (Nat.le_of_ble_eq_true rfl) (by omega) (Nat.le_of_ble_eq_true rfl) (hfac _ a1) (fun _ => rfl) (fun r83 S84 h85 o86 => ?_)
          refine G_if_ne (q := 86) (t := 88) cx dX1_expression_83 rfl (by decide) (fun c87 => ?_) (fun c87 => ?_)
          · refine G_iload (q := 90) cx dX1_expression_88 rfl rfl ?_
            refine G_if_eq (q := 93) (t := 104) cx dX1_expression_90 rfl (by decide) (fun c88 => ?_) (fun c88 => ?_)
            · refine G_iinc (q := 107) (j := 2) (v := x3_6 + 1) (ls' := [(3, .int (x3_6 + 1)), (4, .int r78), (2, .int x2_6), (0, .ref (ad 1 0)), (1, .int a1)]) cx dX1_expression_104 rfl rfl rfl (Nat.le_of_ble_eq_true rfl) rfl ?_
              refine G_goto (t := 14) cx dX1_expression_107 (by decide) ?_
              exact G_loc [2, 0, 3, 4] rfl (ih_6 x2_6 (x3_6 + 1) S84)
            refine G_aload_n (q := 94) cx dX1_expression_93 rfl rfl ?_
            refine G_geta (q := 97) cx dX1_expression_94 rfl cf_1 fl_RX1_22 (Nat.le_of_ble_eq_true rfl) rfl (Nat.le_of_ble_eq_true rfl) (fun e90 => ?_) (fun p89 e91 h_p89 => ?_)
            · exact G_none
            refine G_bipush (q := 99) (v := (7 : Int32)) cx dX1_expression_97 rfl (by decide) ?_
            refine G_iconst (q := 100) (v := (0 : Int32)) cx dX1_expression_99 rfl (by decide) ?_
            refine G_iconst (q := 101) (v := (0 : Int32)) cx dX1_expression_100 rfl (by decide) ?_
            refine G_callV (q := 104) (d' := 0) (f := 0) (i := p89) (As := [.int (7 : Int32), .int (0 : Int32), .int (0 : Int32)]) (rest := []) (stk := fun _ => []) cx dX1_expression_101 rfl cf_0 h_p89 ml_RX1_71 rfl rfl (Nat.le_of_ble_eq_true rfl) (by omega) (Nat.le_of_ble_eq_true rfl) (c_X0_addStep l hJ _ p89 (7 : Int32) (0 : Int32) (0 : Int32) h_p89) (fun _ => rfl) (fun r92 S93 h94 o95 => ?_)
            refine G_iinc (q := 107) (j := 2) (v := x3_6 + 1) (ls' := [(3, .int (x3_6 + 1)), (4, .int r78), (2, .int x2_6), (0, .ref (ad 1 0)), (1, .int a1)]) cx dX1_expression_104 rfl rfl rfl (Nat.le_of_ble_eq_true rfl) rfl ?_
            refine G_goto (t := 14) cx dX1_expression_107 (by decide) ?_
            exact G_loc [2, 0, 3, 4] rfl (ih_6 x2_6 (x3_6 + 1) S93)
          · refine G_iconst (q := 87) (v := (0 : Int32)) cx dX1_expression_86 rfl (by decide) ?_
            exact G_zret (ty := .boolean) cx rfl dX1_expression_87 rfl rfl
        refine G_aload_n (q := 52) cx dX1_expression_51 rfl rfl ?_
        refine G_dup (q := 53) cx dX1_expression_52 rfl rfl ?_
        refine G_geti (q := 56) cx dX1_expression_53 rfl cf_1 fl_RX1_19 (Nat.le_of_ble_eq_true rfl) rfl (Nat.le_of_ble_eq_true rfl) ?_
        refine G_iconst (q := 57) (v := (1 : Int32)) cx dX1_expression_56 rfl (by decide) ?_
        refine G_iadd (q := 58) cx dX1_expression_57 rfl ?_
        refine G_puti (q := 61) cx dX1_expression_58 rfl cf_1 fl_RX1_19 (Nat.le_of_ble_eq_true rfl) rfl rfl rfl rfl rfl (Nat.le_of_ble_eq_true rfl) ?_
        refine G_iload_n (q := 62) cx dX1_expression_61 rfl rfl ?_
        refine G_if_eq (q := 65) (t := 76) cx dX1_expression_62 rfl (by decide) (fun c96 => ?_) (fun c96 => ?_)
        · refine G_iconst (q := 77) (v := (1 : Int32)) cx dX1_expression_76 rfl (by decide) ?_
          refine G_istore_n (q := 78) (ls' := [(2, .int (1 : Int32)), (4, .int r78), (3, .int x3_6), (0, .ref (ad 1 0)), (1, .int a1)]) cx dX1_expression_77 rfl rfl (Nat.le_of_ble_eq_true rfl) rfl ?_
          refine G_aload_n (q := 79) cx dX1_expression_78 rfl rfl ?_
          refine G_iload_n (q := 80) cx dX1_expression_79 rfl rfl ?_
          refine G_callV (q := 83) (d' := dF) (f := 1) (i := 0) (As := [.int a1]) (rest := []) (stk := fun r97 => [.int r97]) cx dX1_expression_80 rfl cf_1 (Nat.le_of_ble_eq_true rfl) ml_RX1_83 rfl rfl (Nat.le_of_ble_eq_true rfl) (by omega) (Nat.le_of_ble_eq_true rfl) (hfac _ a1) (fun _ => rfl) (fun r97 S98 h99 o100 => ?_)
          refine G_if_ne (q := 86) (t := 88) cx dX1_expression_83 rfl (by decide) (fun c101 => ?_) (fun c101 => ?_)
          · refine G_iload (q := 90) cx dX1_expression_88 rfl rfl ?_
            refine G_if_eq (q := 93) (t := 104) cx dX1_expression_90 rfl (by decide) (fun c102 => ?_) (fun c102 => ?_)
            · refine G_iinc (q := 107) (j := 2) (v := x3_6 + 1) (ls' := [(3, .int (x3_6 + 1)), (2, .int (1 : Int32)), (4, .int r78), (0, .ref (ad 1 0)), (1, .int a1)]) cx dX1_expression_104 rfl rfl rfl (Nat.le_of_ble_eq_true rfl) rfl ?_
              refine G_goto (t := 14) cx dX1_expression_107 (by decide) ?_
              exact G_loc [1, 0, 3, 4] rfl (ih_6 (1 : Int32) (x3_6 + 1) S98)
            refine G_aload_n (q := 94) cx dX1_expression_93 rfl rfl ?_
            refine G_geta (q := 97) cx dX1_expression_94 rfl cf_1 fl_RX1_22 (Nat.le_of_ble_eq_true rfl) rfl (Nat.le_of_ble_eq_true rfl) (fun e104 => ?_) (fun p103 e105 h_p103 => ?_)
            · exact G_none
            refine G_bipush (q := 99) (v := (7 : Int32)) cx dX1_expression_97 rfl (by decide) ?_
            refine G_iconst (q := 100) (v := (0 : Int32)) cx dX1_expression_99 rfl (by decide) ?_
            refine G_iconst (q := 101) (v := (0 : Int32)) cx dX1_expression_100 rfl (by decide) ?_
            refine G_callV (q := 104) (d' := 0) (f := 0) (i := p103) (As := [.int (7 : Int32), .int (0 : Int32), .int (0 : Int32)]) (rest := []) (stk := fun _ => []) cx dX1_expression_101 rfl cf_0 h_p103 ml_RX1_71 rfl rfl (Nat.le_of_ble_eq_true rfl) (by omega) (Nat.le_of_ble_eq_true rfl) (c_X0_addStep l hJ _ p103 (7 : Int32) (0 : Int32) (0 : Int32) h_p103) (fun _ => rfl) (fun r106 S107 h108 o109 => ?_)
            refine G_iinc (q := 107) (j := 2) (v := x3_6 + 1) (ls' := [(3, .int (x3_6 + 1)), (2, .int (1 : Int32)), (4, .int r78), (0, .ref (ad 1 0)), (1, .int a1)]) cx dX1_expression_104 rfl rfl rfl (Nat.le_of_ble_eq_true rfl) rfl ?_
            refine G_goto (t := 14) cx dX1_expression_107 (by decide) ?_
            exact G_loc [1, 0, 3, 4] rfl (ih_6 (1 : Int32) (x3_6 + 1) S107)
          · refine G_iconst (q := 87) (v := (0 : Int32)) cx dX1_expression_86 rfl (by decide) ?_
            exact G_zret (ty := .boolean) cx rfl dX1_expression_87 rfl rfl
        refine G_aload_n (q := 66) cx dX1_expression_65 rfl rfl ?_
        refine G_geta (q := 69) cx dX1_expression_66 rfl cf_1 fl_RX1_22 (Nat.le_of_ble_eq_true rfl) rfl (Nat.le_of_ble_eq_true rfl) (fun e111 => ?_) (fun p110 e112 h_p110 => ?_)
        · exact G_none
        refine G_bipush (q := 71) (v := (8 : Int32)) cx dX1_expression_69 rfl (by decide) ?_
        refine G_iconst (q := 72) (v := (0 : Int32)) cx dX1_expression_71 rfl (by decide) ?_
        refine G_iconst (q := 73) (v := (0 : Int32)) cx dX1_expression_72 rfl (by decide) ?_
        refine G_callV (q := 76) (d' := 0) (f := 0) (i := p110) (As := [.int (8 : Int32), .int (0 : Int32), .int (0 : Int32)]) (rest := []) (stk := fun _ => []) cx dX1_expression_73 rfl cf_0 h_p110 ml_RX1_71 rfl rfl (Nat.le_of_ble_eq_true rfl) (by omega) (Nat.le_of_ble_eq_true rfl) (c_X0_addStep l hJ _ p110 (8 : Int32) (0 : Int32) (0 : Int32) h_p110) (fun _ => rfl) (fun r113 S114 h115 o116 => ?_)
        refine G_iconst (q := 77) (v := (1 : Int32)) cx dX1_expression_76 rfl (by decide) ?_
        refine G_istore_n (q := 78) (ls' := [(2, .int (1 : Int32)), (4, .int r78), (3, .int x3_6), (0, .ref (ad 1 0)), (1, .int a1)]) cx dX1_expression_77 rfl rfl (Nat.le_of_ble_eq_true rfl) rfl ?_
        refine G_aload_n (q := 79) cx dX1_expression_78 rfl rfl ?_
        refine G_iload_n (q := 80) cx dX1_expression_79 rfl rfl ?_
        refine G_callV (q := 83) (d' := dF) (f := 1) (i := 0) (As := [.int a1]) (rest := []) (stk := fun r117 => [.int r117]) cx dX1_expression_80 rfl cf_1 (Nat.le_of_ble_eq_true rfl) ml_RX1_83 rfl rfl (Nat.le_of_ble_eq_true rfl) (by omega) (Nat.le_of_ble_eq_true rfl) (hfac _ a1) (fun _ => rfl) (fun r117 S118 h119 o120 => ?_)
        refine G_if_ne (q := 86) (t := 88) cx dX1_expression_83 rfl (by decide) (fun c121 => ?_) (fun c121 => ?_)
        · refine G_iload (q := 90) cx dX1_expression_88 rfl rfl ?_
          refine G_if_eq (q := 93) (t := 104) cx dX1_expression_90 rfl (by decide) (fun c122 => ?_) (fun c122 => ?_)
          · refine G_iinc (q := 107) (j := 2) (v := x3_6 + 1) (ls' := [(3, .int (x3_6 + 1)), (2, .int (1 : Int32)), (4, .int r78), (0, .ref (ad 1 0)), (1, .int a1)]) cx dX1_expression_104 rfl rfl rfl (Nat.le_of_ble_eq_true rfl) rfl ?_
            refine G_goto (t := 14) cx dX1_expression_107 (by decide) ?_
            exact G_loc [1, 0, 3, 4] rfl (ih_6 (1 : Int32) (x3_6 + 1) S118)
          refine G_aload_n (q := 94) cx dX1_expression_93 rfl rfl ?_
          refine G_geta (q := 97) cx dX1_expression_94 rfl cf_1 fl_RX1_22 (Nat.le_of_ble_eq_true rfl) rfl (Nat.le_of_ble_eq_true rfl) (fun e124 => ?_) (fun p123 e125 h_p123 => ?_)
          · exact G_none
          refine G_bipush (q := 99) (v := (7 : Int32)) cx dX1_expression_97 rfl (by decide) ?_
          refine G_iconst (q := 100) (v := (0 : Int32)) cx dX1_expression_99 rfl (by decide) ?_
          refine G_iconst (q := 101) (v := (0 : Int32)) cx dX1_expression_100 rfl (by decide) ?_
          refine G_callV (q := 104) (d' := 0) (f := 0) (i := p123) (As := [.int (7 : Int32), .int (0 : Int32), .int (0 : Int32)]) (rest := []) (stk := fun _ => []) cx dX1_expression_101 rfl cf_0 h_p123 ml_RX1_71 rfl rfl (Nat.le_of_ble_eq_true rfl) (by omega) (Nat.le_of_ble_eq_true rfl) (c_X0_addStep l hJ _ p123 (7 : Int32) (0 : Int32) (0 : Int32) h_p123) (fun _ => rfl) (fun r126 S127 h128 o129 => ?_)
          refine G_iinc (q := 107) (j := 2) (v := x3_6 + 1) (ls' := [(3, .int (x3_6 + 1)), (2, .int (1 : Int32)), (4, .int r78), (0, .ref (ad 1 0)), (1, .int a1)]) cx dX1_expression_104 rfl rfl rfl (Nat.le_of_ble_eq_true rfl) rfl ?_
          refine G_goto (t := 14) cx dX1_expression_107 (by decide) ?_
          exact G_loc [1, 0, 3, 4] rfl (ih_6 (1 : Int32) (x3_6 + 1) S127)
        · refine G_iconst (q := 87) (v := (0 : Int32)) cx dX1_expression_86 rfl (by decide) ?_
          exact G_zret (ty := .boolean) cx rfl dX1_expression_87 rfl rfl
    refine G_loc [1, 0, 2, 3] rfl (lp_6 _ (fun y2_6 y3_6 T_6 => ?_) 1000 (0 : Int32) (0 : Int32) S2)
    refine G_iload_n (q := 111) cx dX1_expression_110 rfl rfl ?_
    refine G_if_eq (q := 114) (t := 125) cx dX1_expression_111 rfl (by decide) (fun c7 => ?_) (fun c7 => ?_)
    · refine G_iconst (q := 126) (v := (1 : Int32)) cx dX1_expression_125 rfl (by decide) ?_
      exact G_zret (ty := .boolean) cx rfl dX1_expression_126 rfl rfl
    refine G_aload_n (q := 115) cx dX1_expression_114 rfl rfl ?_
    refine G_geta (q := 118) cx dX1_expression_115 rfl cf_1 fl_RX1_22 (Nat.le_of_ble_eq_true rfl) rfl (Nat.le_of_ble_eq_true rfl) (fun e9 => ?_) (fun p8 e10 h_p8 => ?_)
    · exact G_none
    refine G_bipush (q := 120) (v := (8 : Int32)) cx dX1_expression_118 rfl (by decide) ?_
    refine G_iconst (q := 121) (v := (0 : Int32)) cx dX1_expression_120 rfl (by decide) ?_
    refine G_iconst (q := 122) (v := (0 : Int32)) cx dX1_expression_121 rfl (by decide) ?_
    refine G_callV (q := 125) (d' := 0) (f := 0) (i := p8) (As := [.int (8 : Int32), .int (0 : Int32), .int (0 : Int32)]) (rest := []) (stk := fun _ => []) cx dX1_expression_122 rfl cf_0 h_p8 ml_RX1_71 rfl rfl (Nat.le_of_ble_eq_true rfl) (by omega) (Nat.le_of_ble_eq_true rfl) (c_X0_addStep l hJ _ p8 (8 : Int32) (0 : Int32) (0 : Int32) h_p8) (fun _ => rfl) (fun r11 S12 h13 o14 => ?_)
    refine G_iconst (q := 126) (v := (1 : Int32)) cx dX1_expression_125 rfl (by decide) ?_
    exact G_zret (ty := .boolean) cx rfl dX1_expression_126 rfl rfl
  · refine G_iconst (q := 11) (v := (0 : Int32)) cx dX1_expression_10 rfl (by decide) ?_
    exact G_zret (ty := .boolean) cx rfl dX1_expression_11 rfl rfl
def F_X1_factor : Nat → St → Int32 → Option (Int32 × St)
  | 0, _, _ => none
  | n + 1, S, a1 =>
    if (4 : Int32) ≤ a1 then (if (4 : Int32) ≤ a1 then (bnd (F_X1_test S) (fun r3 S4 =>
    some (r3, S4)))
    else (bnd (F_X1_takes S (40 : Int32)) (fun r7 S8 =>
    if r7 = 0 then (bnd (F_X1_test S8) (fun r12 S13 =>
    some (r12, S13)))
    else (bnd (F_X1_expression (F_X1_factor n) S8 (a1 + (1 : Int32))) (fun r16 S17 =>
    if r16 = 0 then (some ((0 : Int32), S17))
    else (bnd (F_X1_takes S17 (41 : Int32)) (fun r21 S22 =>
    if r21 = 0 then (some ((0 : Int32), S22))
    else (some ((1 : Int32), S22)))))))))
    else (bnd (F_X1_takes S (33 : Int32)) (fun r26 S27 =>
    if r26 = 0 then (if (4 : Int32) ≤ a1 then (bnd (F_X1_test S27) (fun r32 S33 =>
    some (r32, S33)))
    else (bnd (F_X1_takes S27 (40 : Int32)) (fun r36 S37 =>
    if r36 = 0 then (bnd (F_X1_test S37) (fun r41 S42 =>
    some (r41, S42)))
    else (bnd (F_X1_expression (F_X1_factor n) S37 (a1 + (1 : Int32))) (fun r45 S46 =>
    if r45 = 0 then (some ((0 : Int32), S46))
    else (bnd (F_X1_takes S46 (41 : Int32)) (fun r50 S51 =>
    if r50 = 0 then (some ((0 : Int32), S51))
    else (some ((1 : Int32), S51)))))))))
    else (bnd (F_X1_factor n S27 (a1 + (1 : Int32))) (fun r55 S56 =>
    if r55 = 0 then (some ((0 : Int32), S56))
    else ((gR S56 1 0 3).elim none
    (fun p60 => bnd (F_X0_addStep S56 p60 (6 : Int32) (0 : Int32) (0 : Int32)) (fun r63 S64 =>
    some ((1 : Int32), S64))))))))
set_option maxRecDepth 10000 in
theorem c_X1_factor (l : Launch) {D : va_G} {cy : Nat → ClassId} {ad : Nat → Nat → Nat} {k : Nat} (hJ : wJ ad (nX k)) : ∀ (n_r : Nat) (S : St) (a1 : Int32), CT l yX1_factor cX1_factor 2 (some .boolean) (2 * n_r + 8) D cy ad (nX k) toI okZ [.ref (ad 1 0), .int a1] S (F_X1_factor n_r S a1) := by
  intro n_r
  induction n_r with
  | zero => intro S a1 r S1 hr; cases hr
  | succ n_r ih =>
    intro S a1
    refine CT.of RX1 (by decide) rfl hJ (Nat.le_of_ble_eq_true rfl) rfl ?_
    intro p e s m below meth c cx
    rw [F_X1_factor.eq_2]
    refine G_iload_n (q := 1) cx dX1_factor_0 rfl rfl ?_
    refine G_iconst (q := 2) (v := (4 : Int32)) cx dX1_factor_1 rfl (by decide) ?_
    refine G_icmp_ge (q := 5) (t := 39) cx dX1_factor_2 rfl (by decide) (fun c1 => ?_) (fun c1 => ?_)
    · refine G_iload_n (q := 40) cx dX1_factor_39 rfl rfl ?_
      refine G_iconst (q := 41) (v := (4 : Int32)) cx dX1_factor_40 rfl (by decide) ?_
      refine G_icmp_ge (q := 44) (t := 78) cx dX1_factor_41 rfl (by decide) (fun c2 => ?_) (fun c2 => ?_)
      · refine G_aload_n (q := 79) cx dX1_factor_78 rfl rfl ?_
        refine G_callV (q := 82) (d' := 4) (f := 1) (i := 0) (As := []) (rest := []) (stk := fun r3 => [.int r3]) cx dX1_factor_79 rfl cf_1 (Nat.le_of_ble_eq_true rfl) ml_RX1_86 rfl rfl (Nat.le_of_ble_eq_true rfl) (by omega) (Nat.le_of_ble_eq_true rfl) (c_X1_test l hJ _) (fun _ => rfl) (fun r3 S4 h5 o6 => ?_)
        exact G_zret (ty := .boolean) cx rfl dX1_factor_82 o6 o6
      refine G_aload_n (q := 45) cx dX1_factor_44 rfl rfl ?_
      refine G_bipush (q := 47) (v := (40 : Int32)) cx dX1_factor_45 rfl (by decide) ?_
      refine G_callV (q := 50) (d' := 1) (f := 1) (i := 0) (As := [.int (40 : Int32)]) (rest := []) (stk := fun r7 => [.int r7]) cx dX1_factor_47 rfl cf_1 (Nat.le_of_ble_eq_true rfl) ml_RX1_35 rfl rfl (Nat.le_of_ble_eq_true rfl) (by omega) (Nat.le_of_ble_eq_true rfl) (c_X1_takes l hJ _ (40 : Int32)) (fun _ => rfl) (fun r7 S8 h9 o10 => ?_)
      refine G_if_eq (q := 53) (t := 78) cx dX1_factor_50 rfl (by decide) (fun c11 => ?_) (fun c11 => ?_)
      · refine G_aload_n (q := 79) cx dX1_factor_78 rfl rfl ?_
        refine G_callV (q := 82) (d' := 4) (f := 1) (i := 0) (As := []) (rest := []) (stk := fun r12 => [.int r12]) cx dX1_factor_79 rfl cf_1 (Nat.le_of_ble_eq_true rfl) ml_RX1_86 rfl rfl (Nat.le_of_ble_eq_true rfl) (by omega) (Nat.le_of_ble_eq_true rfl) (c_X1_test l hJ _) (fun _ => rfl) (fun r12 S13 h14 o15 => ?_)
        exact G_zret (ty := .boolean) cx rfl dX1_factor_82 o15 o15
      refine G_aload_n (q := 54) cx dX1_factor_53 rfl rfl ?_
      refine G_iload_n (q := 55) cx dX1_factor_54 rfl rfl ?_
      refine G_iconst (q := 56) (v := (1 : Int32)) cx dX1_factor_55 rfl (by decide) ?_
      refine G_iadd (q := 57) cx dX1_factor_56 rfl ?_
      refine G_callV (q := 60) (d' := (2 * n_r + 8 + 1)) (f := 1) (i := 0) (As := [.int (a1 + (1 : Int32))]) (rest := []) (stk := fun r16 => [.int r16]) cx dX1_factor_57 rfl cf_1 (Nat.le_of_ble_eq_true rfl) ml_RX1_67 rfl rfl (Nat.le_of_ble_eq_true rfl) (by omega) (Nat.le_of_ble_eq_true rfl) (c_X1_expression l hJ (F_X1_factor n_r) (2 * n_r + 8) (by omega) (fun S w => ih S w) _ (a1 + (1 : Int32))) (fun _ => rfl) (fun r16 S17 h18 o19 => ?_)
      refine G_if_eq (q := 63) (t := 76) cx dX1_factor_60 rfl (by decide) (fun c20 => ?_) (fun c20 => ?_)
      · refine G_iconst (q := 77) (v := (0 : Int32)) cx dX1_factor_76 rfl (by decide) ?_
        exact G_zret (ty := .boolean) cx rfl dX1_factor_77 rfl rfl
      refine G_aload_n (q := 64) cx dX1_factor_63 rfl rfl ?_
      refine G_bipush (q := 66) (v := (41 : Int32)) cx dX1_factor_64 rfl (by decide) ?_
      refine G_callV (q := 69) (d' := 1) (f := 1) (i := 0) (As := [.int (41 : Int32)]) (rest := []) (stk := fun r21 => [.int r21]) cx dX1_factor_66 rfl cf_1 (Nat.le_of_ble_eq_true rfl) ml_RX1_35 rfl rfl (Nat.le_of_ble_eq_true rfl) (by omega) (Nat.le_of_ble_eq_true rfl) (c_X1_takes l hJ _ (41 : Int32)) (fun _ => rfl) (fun r21 S22 h23 o24 => ?_)
      refine G_if_eq (q := 72) (t := 76) cx dX1_factor_69 rfl (by decide) (fun c25 => ?_) (fun c25 => ?_)
      · refine G_iconst (q := 77) (v := (0 : Int32)) cx dX1_factor_76 rfl (by decide) ?_
        exact G_zret (ty := .boolean) cx rfl dX1_factor_77 rfl rfl
      · refine G_iconst (q := 73) (v := (1 : Int32)) cx dX1_factor_72 rfl (by decide) ?_
        refine G_goto (t := 77) cx dX1_factor_73 (by decide) ?_
        exact G_zret (ty := .boolean) cx rfl dX1_factor_77 rfl rfl
    refine G_aload_n (q := 6) cx dX1_factor_5 rfl rfl ?_
    refine G_bipush (q := 8) (v := (33 : Int32)) cx dX1_factor_6 rfl (by decide) ?_
    refine G_callV (q := 11) (d' := 1) (f := 1) (i := 0) (As := [.int (33 : Int32)]) (rest := []) (stk := fun r26 => [.int r26]) cx dX1_factor_8 rfl cf_1 (Nat.le_of_ble_eq_true rfl) ml_RX1_35 rfl rfl (Nat.le_of_ble_eq_true rfl) (by omega) (Nat.le_of_ble_eq_true rfl) (c_X1_takes l hJ _ (33 : Int32)) (fun _ => rfl) (fun r26 S27 h28 o29 => ?_)
    refine G_if_eq (q := 14) (t := 39) cx dX1_factor_11 rfl (by decide) (fun c30 => ?_) (fun c30 => ?_)
    · refine G_iload_n (q := 40) cx dX1_factor_39 rfl rfl ?_
      refine G_iconst (q := 41) (v := (4 : Int32)) cx dX1_factor_40 rfl (by decide) ?_
      refine G_icmp_ge (q := 44) (t := 78) cx dX1_factor_41 rfl (by decide) (fun c31 => ?_) (fun c31 => ?_)
      · refine G_aload_n (q := 79) cx dX1_factor_78 rfl rfl ?_
        refine G_callV (q := 82) (d' := 4) (f := 1) (i := 0) (As := []) (rest := []) (stk := fun r32 => [.int r32]) cx dX1_factor_79 rfl cf_1 (Nat.le_of_ble_eq_true rfl) ml_RX1_86 rfl rfl (Nat.le_of_ble_eq_true rfl) (by omega) (Nat.le_of_ble_eq_true rfl) (c_X1_test l hJ _) (fun _ => rfl) (fun r32 S33 h34 o35 => ?_)
        exact G_zret (ty := .boolean) cx rfl dX1_factor_82 o35 o35
      refine G_aload_n (q := 45) cx dX1_factor_44 rfl rfl ?_
      refine G_bipush (q := 47) (v := (40 : Int32)) cx dX1_factor_45 rfl (by decide) ?_
      refine G_callV (q := 50) (d' := 1) (f := 1) (i := 0) (As := [.int (40 : Int32)]) (rest := []) (stk := fun r36 => [.int r36]) cx dX1_factor_47 rfl cf_1 (Nat.le_of_ble_eq_true rfl) ml_RX1_35 rfl rfl (Nat.le_of_ble_eq_true rfl) (by omega) (Nat.le_of_ble_eq_true rfl) (c_X1_takes l hJ _ (40 : Int32)) (fun _ => rfl) (fun r36 S37 h38 o39 => ?_)
      refine G_if_eq (q := 53) (t := 78) cx dX1_factor_50 rfl (by decide) (fun c40 => ?_) (fun c40 => ?_)
      · refine G_aload_n (q := 79) cx dX1_factor_78 rfl rfl ?_
        refine G_callV (q := 82) (d' := 4) (f := 1) (i := 0) (As := []) (rest := []) (stk := fun r41 => [.int r41]) cx dX1_factor_79 rfl cf_1 (Nat.le_of_ble_eq_true rfl) ml_RX1_86 rfl rfl (Nat.le_of_ble_eq_true rfl) (by omega) (Nat.le_of_ble_eq_true rfl) (c_X1_test l hJ _) (fun _ => rfl) (fun r41 S42 h43 o44 => ?_)
        exact G_zret (ty := .boolean) cx rfl dX1_factor_82 o44 o44
      refine G_aload_n (q := 54) cx dX1_factor_53 rfl rfl ?_
      refine G_iload_n (q := 55) cx dX1_factor_54 rfl rfl ?_
      refine G_iconst (q := 56) (v := (1 : Int32)) cx dX1_factor_55 rfl (by decide) ?_
      refine G_iadd (q := 57) cx dX1_factor_56 rfl ?_
      refine G_callV (q := 60) (d' := (2 * n_r + 8 + 1)) (f := 1) (i := 0) (As := [.int (a1 + (1 : Int32))]) (rest := []) (stk := fun r45 => [.int r45]) cx dX1_factor_57 rfl cf_1 (Nat.le_of_ble_eq_true rfl) ml_RX1_67 rfl rfl (Nat.le_of_ble_eq_true rfl) (by omega) (Nat.le_of_ble_eq_true rfl) (c_X1_expression l hJ (F_X1_factor n_r) (2 * n_r + 8) (by omega) (fun S w => ih S w) _ (a1 + (1 : Int32))) (fun _ => rfl) (fun r45 S46 h47 o48 => ?_)
      refine G_if_eq (q := 63) (t := 76) cx dX1_factor_60 rfl (by decide) (fun c49 => ?_) (fun c49 => ?_)
      · refine G_iconst (q := 77) (v := (0 : Int32)) cx dX1_factor_76 rfl (by decide) ?_
        exact G_zret (ty := .boolean) cx rfl dX1_factor_77 rfl rfl
      refine G_aload_n (q := 64) cx dX1_factor_63 rfl rfl ?_
      refine G_bipush (q := 66) (v := (41 : Int32)) cx dX1_factor_64 rfl (by decide) ?_
      refine G_callV (q := 69) (d' := 1) (f := 1) (i := 0) (As := [.int (41 : Int32)]) (rest := []) (stk := fun r50 => [.int r50]) cx dX1_factor_66 rfl cf_1 (Nat.le_of_ble_eq_true rfl) ml_RX1_35 rfl rfl (Nat.le_of_ble_eq_true rfl) (by omega) (Nat.le_of_ble_eq_true rfl) (c_X1_takes l hJ _ (41 : Int32)) (fun _ => rfl) (fun r50 S51 h52 o53 => ?_)
      refine G_if_eq (q := 72) (t := 76) cx dX1_factor_69 rfl (by decide) (fun c54 => ?_) (fun c54 => ?_)
      · refine G_iconst (q := 77) (v := (0 : Int32)) cx dX1_factor_76 rfl (by decide) ?_
        exact G_zret (ty := .boolean) cx rfl dX1_factor_77 rfl rfl
      · refine G_iconst (q := 73) (v := (1 : Int32)) cx dX1_factor_72 rfl (by decide) ?_
        refine G_goto (t := 77) cx dX1_factor_73 (by decide) ?_
        exact G_zret (ty := .boolean) cx rfl dX1_factor_77 rfl rfl
    refine G_aload_n (q := 15) cx dX1_factor_14 rfl rfl ?_
    refine G_iload_n (q := 16) cx dX1_factor_15 rfl rfl ?_
    refine G_iconst (q := 17) (v := (1 : Int32)) cx dX1_factor_16 rfl (by decide) ?_
    refine G_iadd (q := 18) cx dX1_factor_17 rfl ?_
    refine G_callV (q := 21) (d' := (2 * n_r + 8)) (f := 1) (i := 0) (As := [.int (a1 + (1 : Int32))]) (rest := []) (stk := fun r55 => [.int r55]) cx dX1_factor_18 rfl cf_1 (Nat.le_of_ble_eq_true rfl) ml_RX1_83 rfl rfl (Nat.le_of_ble_eq_true rfl) (by omega) (Nat.le_of_ble_eq_true rfl) (ih _ (a1 + (1 : Int32))) (fun _ => rfl) (fun r55 S56 h57 o58 => ?_)
    refine G_if_ne (q := 24) (t := 26) cx dX1_factor_21 rfl (by decide) (fun c59 => ?_) (fun c59 => ?_)
    · refine G_aload_n (q := 27) cx dX1_factor_26 rfl rfl ?_
      refine G_geta (q := 30) cx dX1_factor_27 rfl cf_1 fl_RX1_22 (Nat.le_of_ble_eq_true rfl) rfl (Nat.le_of_ble_eq_true rfl) (fun e61 => ?_) (fun p60 e62 h_p60 => ?_)
      · exact G_none
      refine G_bipush (q := 32) (v := (6 : Int32)) cx dX1_factor_30 rfl (by decide) ?_
      refine G_iconst (q := 33) (v := (0 : Int32)) cx dX1_factor_32 rfl (by decide) ?_
      refine G_iconst (q := 34) (v := (0 : Int32)) cx dX1_factor_33 rfl (by decide) ?_
      refine G_callV (q := 37) (d' := 0) (f := 0) (i := p60) (As := [.int (6 : Int32), .int (0 : Int32), .int (0 : Int32)]) (rest := []) (stk := fun _ => []) cx dX1_factor_34 rfl cf_0 h_p60 ml_RX1_71 rfl rfl (Nat.le_of_ble_eq_true rfl) (by omega) (Nat.le_of_ble_eq_true rfl) (c_X0_addStep l hJ _ p60 (6 : Int32) (0 : Int32) (0 : Int32) h_p60) (fun _ => rfl) (fun r63 S64 h65 o66 => ?_)
      refine G_iconst (q := 38) (v := (1 : Int32)) cx dX1_factor_37 rfl (by decide) ?_
      exact G_zret (ty := .boolean) cx rfl dX1_factor_38 rfl rfl
    · refine G_iconst (q := 25) (v := (0 : Int32)) cx dX1_factor_24 rfl (by decide) ?_
      exact G_zret (ty := .boolean) cx rfl dX1_factor_25 rfl rfl
