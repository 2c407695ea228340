theorem zv_x4_copy {S : St} {i a n : Nat} (hn : gI S 4 a 2 = nI n) (h1 : n ≤ kl 15 i) (h2 : kl 14 i = kl 15 i) (h3 : kl 14 a = kl 15 i) (h4 : kl 15 a = kl 15 i) (h5 : kl 15 i ≤ 100) :
    ∃ S', F_X4_copyFrom S i a = some ((), S') ∧ (∀ f j r, gI S' f j r = if f = 4 ∧ j = i ∧ r = 2 then nI n else if f = 14 ∧ j = i ∧ r < n then gI S 14 a r else if f = 15 ∧ j = i ∧ r < n then gI S 15 a r else gI S f j r) ∧ gJ S' = gJ S ∧ gR S' = gR S := by
  have e : (if (Int32.ofNat (kl 15 i)) < nI n then (Int32.ofNat (kl 15 i)) else nI n) = nI n := by
    exact if_neg (show ¬ nI (kl 15 i) < nI n by rw [zv_nIlt (by omega) (by omega)]; omega)
  have z0 : (0 : Int32).toNatClampNeg = 0 := rfl
  have z1 : (0 : Int32) ≤ 0 := by decide
  refine ⟨cI (cI (sI S 4 i 2 (nI n)) 14 i (va_cpy (gI S 14 a) (gI S 14 i) 0 0 n)) 15 i (va_cpy (gI S 15 a) (gI S 15 i) 0 0 n), ?_, ?_, rfl, rfl⟩
  · unfold F_X4_copyFrom
    simp only [hn, e, gI_sI, zv_gI_f, zv_gI_i, gI_sI, zv_gJ_f, zv_gIc_f, zv_gIc_i, zv_kJ_sI, zv_kR_sI, zv_kI_sJ, zv_kR_sJ, zv_kI_sR, zv_kJ_sR, zv_kJ_cI, zv_kR_cI, zv_kI_cJ, zv_kR_cJ, ne_eq, Nat.reduceEqDiff, Nat.reduceMul, Nat.reduceAdd, not_false_eq_true, not_true_eq_false, false_and, and_false, and_true, true_and, and_self, reduceIte, Nat.one_ne_zero, Nat.zero_ne_one, Nat.zero_add, Nat.mul_zero, zv_nIcl (show n < 2147483648 by omega), zv_nI0 n (by omega), z0, z1, h2, h3, h4, h1]
  · intro f j r
    rw [gI_cI, gI_cI, gI_sI]
    unfold va_cpy
    by_cases zv_c1 : f = 4 ∧ j = i ∧ r = 2
    · rw [if_pos zv_c1, if_neg (by omega), if_neg (by omega), if_pos zv_c1]
    · rw [if_neg zv_c1, if_neg zv_c1]
      by_cases c2 : f = 15 ∧ j = i
      · rw [if_pos c2]
        by_cases c3 : r < n
        · rw [if_pos (by omega), if_neg (by omega), if_pos (by omega)]; congr 1; omega
        · rw [if_neg (by omega), if_neg (by omega), if_neg (by omega), c2.1, c2.2]
      · rw [if_neg c2]
        by_cases c4 : f = 14 ∧ j = i
        · rw [if_pos c4]
          by_cases c3 : r < n
          · rw [if_pos (by omega), if_pos (by omega)]; congr 1; omega
          · rw [if_neg (by omega), if_neg (by omega), if_neg (by omega), c4.1, c4.2]
        · rw [if_neg c4, if_neg (by omega), if_neg (by omega)]
theorem zv_x3_copy {S : St} {i a : Nat} (hne : i ≠ a) :
    ∃ S', F_X3_copyFrom S i a = some ((), S') ∧ (∀ f j r, gI S' f j r = if f = 3 ∧ j = i ∧ 2 ≤ r ∧ r ≤ 5 then gI S 3 a r else if f = 13 ∧ j = i ∧ r < 4 then gI S 13 a r else gI S f j r) ∧ gJ S' = gJ S ∧ ∀ f j r, gR S' f j r = if f = 3 ∧ j = i ∧ r = 6 then none else gR S f j r := by
  have z0 : (0 : Int32).toNatClampNeg = 0 := rfl
  have z4 : (4 : Int32).toNatClampNeg = 4 := rfl
  have z1 : (0 : Int32) ≤ 0 := by decide
  have z2 : (0 : Int32) ≤ 4 := by decide
  obtain ⟨X, ⟨x1, x2, x3⟩, ex⟩ := zv_fillX i (sI (sI (sI (sI S 3 i 2 (gI S 3 a 2)) 3 i 3 (gI S 3 a 3)) 3 i 4 (gI S 3 a 4)) 3 i 5 (gI S 3 a 5)) (fun y2_1 T_1 => some ((), T_1))
  rw [show nI 0 = 0 from rfl] at ex
  refine ⟨cI (sR X 3 i 6 none) 13 i (va_cpy (gI X 13 a) (gI X 13 i) 0 0 4), ?_, ?_, x2, ?_⟩
  · unfold F_X3_copyFrom F_X3_begin F_J7_fill_53178
    rw [ex]
    simp only [bnd, z0, z4, z1, z2, show 0 + 4 ≤ 4 by decide, and_self, reduceIte]
    rfl
  · intro f j r
    rw [gI_cI]
    unfold va_cpy
    by_cases zv_c1 : f = 13 ∧ j = i
    · rw [if_pos zv_c1, if_neg (show ¬ (f = 3 ∧ j = i ∧ 2 ≤ r ∧ r ≤ 5) by omega)]
      by_cases c2 : r < 4
      · rw [if_pos (by omega), if_pos (by omega), x1, if_neg (by omega)]
        simp only [gI_sI, zv_gI_f, zv_gI_i, gI_sI, zv_gJ_f, zv_gIc_f, zv_gIc_i, zv_kJ_sI, zv_kR_sI, zv_kI_sJ, zv_kR_sJ, zv_kI_sR, zv_kJ_sR, zv_kJ_cI, zv_kR_cI, zv_kI_cJ, zv_kR_cJ, ne_eq, Nat.reduceEqDiff, Nat.reduceMul, Nat.reduceAdd, not_false_eq_true, not_true_eq_false, false_and, and_false, and_true, true_and, and_self, reduceIte, Nat.one_ne_zero, Nat.zero_ne_one, Nat.zero_add, Nat.mul_zero, Nat.sub_zero]
      · rw [if_neg (by omega), if_neg (by omega), x1, if_neg (by omega), zv_c1.1, zv_c1.2]
        simp only [gI_sI, zv_gI_f, zv_gI_i, gI_sI, zv_gJ_f, zv_gIc_f, zv_gIc_i, zv_kJ_sI, zv_kR_sI, zv_kI_sJ, zv_kR_sJ, zv_kI_sR, zv_kJ_sR, zv_kJ_cI, zv_kR_cI, zv_kI_cJ, zv_kR_cJ, ne_eq, Nat.reduceEqDiff, Nat.reduceMul, Nat.reduceAdd, not_false_eq_true, not_true_eq_false, false_and, and_false, and_true, true_and, and_self, reduceIte, Nat.one_ne_zero, Nat.zero_ne_one, Nat.zero_add, Nat.mul_zero]
    · rw [if_neg zv_c1, show gI (sR X 3 i 6 none) f j r = gI X f j r from rfl, x1, if_neg (by omega), if_neg (show ¬ (f = 13 ∧ j = i ∧ r < 4) by omega)]
      simp only [gI_sI]
      by_cases c3 : f = 3 ∧ j = i
      · obtain ⟨rfl, rfl⟩ := c3
        by_cases d2 : r = 2
        · subst d2; simp only [zv_gI_f, zv_gI_i, gI_sI, zv_gJ_f, zv_gIc_f, zv_gIc_i, zv_kJ_sI, zv_kR_sI, zv_kI_sJ, zv_kR_sJ, zv_kI_sR, zv_kJ_sR, zv_kJ_cI, zv_kR_cI, zv_kI_cJ, zv_kR_cJ, ne_eq, Nat.reduceEqDiff, Nat.reduceMul, Nat.reduceAdd, not_false_eq_true, not_true_eq_false, false_and, and_false, and_true, true_and, and_self, reduceIte, Nat.one_ne_zero, Nat.zero_ne_one, Nat.zero_add, Nat.mul_zero]; rfl
        by_cases d3 : r = 3
        · subst d3; simp only [zv_gI_f, zv_gI_i, gI_sI, zv_gJ_f, zv_gIc_f, zv_gIc_i, zv_kJ_sI, zv_kR_sI, zv_kI_sJ, zv_kR_sJ, zv_kI_sR, zv_kJ_sR, zv_kJ_cI, zv_kR_cI, zv_kI_cJ, zv_kR_cJ, ne_eq, Nat.reduceEqDiff, Nat.reduceMul, Nat.reduceAdd, not_false_eq_true, not_true_eq_false, false_and, and_false, and_true, true_and, and_self, reduceIte, Nat.one_ne_zero, Nat.zero_ne_one, Nat.zero_add, Nat.mul_zero]; rfl
        by_cases d4 : r = 4
        · subst d4; simp only [zv_gI_f, zv_gI_i, gI_sI, zv_gJ_f, zv_gIc_f, zv_gIc_i, zv_kJ_sI, zv_kR_sI, zv_kI_sJ, zv_kR_sJ, zv_kI_sR, zv_kJ_sR, zv_kJ_cI, zv_kR_cI, zv_kI_cJ, zv_kR_cJ, ne_eq, Nat.reduceEqDiff, Nat.reduceMul, Nat.reduceAdd, not_false_eq_true, not_true_eq_false, false_and, and_false, and_true, true_and, and_self, reduceIte, Nat.one_ne_zero, Nat.zero_ne_one, Nat.zero_add, Nat.mul_zero]; rfl
        by_cases d5 : r = 5
        · subst d5; simp only [zv_gI_f, zv_gI_i, gI_sI, zv_gJ_f, zv_gIc_f, zv_gIc_i, zv_kJ_sI, zv_kR_sI, zv_kI_sJ, zv_kR_sJ, zv_kI_sR, zv_kJ_sR, zv_kJ_cI, zv_kR_cI, zv_kI_cJ, zv_kR_cJ, ne_eq, Nat.reduceEqDiff, Nat.reduceMul, Nat.reduceAdd, not_false_eq_true, not_true_eq_false, false_and, and_false, and_true, true_and, and_self, reduceIte, Nat.one_ne_zero, Nat.zero_ne_one, Nat.zero_add, Nat.mul_zero]; rfl
        rw [if_neg (by omega), if_neg (by omega), if_neg (by omega), if_neg (by omega), if_neg (by omega)]
      · rw [if_neg (by omega), if_neg (by omega), if_neg (by omega), if_neg (by omega), if_neg (by omega)]
  · intro f j r
    rw [show gR (cI (sR X 3 i 6 none) 13 i (va_cpy (gI X 13 a) (gI X 13 i) 0 0 4)) f j r = gR (sR X 3 i 6 none) f j r from rfl, gR_sR, x3]
    rfl
theorem zv_x5_loop {i a c : Nat} (hia : (i = 0 ∧ a = 1) ∨ (i = 1 ∧ a = 0)) (hc : c ≤ 6) (zv_S0 : St) (h5 : gI zv_S0 5 i 5 = nI c) (K : Int32 → St → Option (Unit × St)) :
    ∃ T, ((∀ f b r, gI T f b r = if f = 3 ∧ 6 * i ≤ b ∧ b < 6 * i + c ∧ 2 ≤ r ∧ r ≤ 5 then gI zv_S0 3 (6 * a + (b - 6 * i)) r else if f = 13 ∧ 6 * i ≤ b ∧ b < 6 * i + c ∧ r < 4 then gI zv_S0 13 (6 * a + (b - 6 * i)) r else gI zv_S0 f b r) ∧ gJ T = gJ zv_S0 ∧ ∀ f b r, gR T f b r = if f = 3 ∧ 6 * i ≤ b ∧ b < 6 * i + c ∧ r = 6 then none else gR zv_S0 f b r) ∧ L_X5_copyFrom_10 i a K 1000 (nI 0) zv_S0 = K (nI c) T := by
  refine zv_lpI (L_X5_copyFrom_10 i a K) K c (fun j T => (∀ f b r, gI T f b r = if f = 3 ∧ 6 * i ≤ b ∧ b < 6 * i + j ∧ 2 ≤ r ∧ r ≤ 5 then gI zv_S0 3 (6 * a + (b - 6 * i)) r else if f = 13 ∧ 6 * i ≤ b ∧ b < 6 * i + j ∧ r < 4 then gI zv_S0 13 (6 * a + (b - 6 * i)) r else gI zv_S0 f b r) ∧ gJ T = gJ zv_S0 ∧ ∀ f b r, gR T f b r = if f = 3 ∧ 6 * i ≤ b ∧ b < 6 * i + j ∧ r = 6 then none else gR zv_S0 f b r) ?_ ?_ c 0 1000 zv_S0 (by omega) (by omega) ⟨fun f b r => by rw [if_neg (by omega), if_neg (by omega)], rfl, fun f b r => by rw [if_neg (by omega)]⟩
  · intro n j T hj ⟨h1, h2, h3⟩
    obtain ⟨T', e, g1, g2, g3⟩ := zv_x3_copy (S := T) (i := 6 * i + j) (a := 6 * a + j) (by omega)
    have e5 : gI T 5 i 5 = nI c := by rw [h1, if_neg (by omega), if_neg (by omega)]; exact h5
    refine ⟨T', ⟨fun f b r => ?_, g2.trans h2, fun f b r => ?_⟩, ?_⟩
    · rw [g1]
      by_cases zv_c1 : f = 3 ∧ b = 6 * i + j ∧ 2 ≤ r ∧ r ≤ 5
      · rw [if_pos zv_c1, if_pos (by omega), h1, if_neg (by omega), if_neg (by omega), show 6 * a + (b - 6 * i) = 6 * a + j by omega]
      · rw [if_neg zv_c1]
        by_cases c2 : f = 13 ∧ b = 6 * i + j ∧ r < 4
        · rw [if_pos c2, if_neg (by omega), if_pos (by omega), h1, if_neg (by omega), if_neg (by omega), show 6 * a + (b - 6 * i) = 6 * a + j by omega]
        · rw [if_neg c2, h1]
          by_cases c3 : f = 3 ∧ 6 * i ≤ b ∧ b < 6 * i + j ∧ 2 ≤ r ∧ r ≤ 5
          · rw [if_pos c3, if_pos (by omega)]
          · rw [if_neg c3, if_neg (show ¬ (f = 3 ∧ 6 * i ≤ b ∧ b < 6 * i + (j + 1) ∧ 2 ≤ r ∧ r ≤ 5) by omega)]
            by_cases c4 : f = 13 ∧ 6 * i ≤ b ∧ b < 6 * i + j ∧ r < 4
            · rw [if_pos c4, if_pos (by omega)]
            · rw [if_neg c4, if_neg (by omega)]
    · rw [g3, h3]
      by_cases zv_c1 : f = 3 ∧ b = 6 * i + j ∧ r = 6
      · rw [if_pos zv_c1, if_pos (by omega)]
      · rw [if_neg zv_c1]
        by_cases c2 : f = 3 ∧ 6 * i ≤ b ∧ b < 6 * i + j ∧ r = 6
        · rw [if_pos c2, if_pos (by omega)]
        · rw [if_neg c2, if_neg (by omega)]
    · rw [L_X5_copyFrom_10.eq_2, e5, if_neg (by rw [zv_nIle (by omega) (by omega)]; omega), if_pos (zv_gd (by omega)), if_pos (zv_gd (by omega)), zv_nIcl (by omega), e, zv_nIs j (by omega)]
      rfl
  · intro n T ⟨h1, h2, h3⟩
    have e5 : gI T 5 i 5 = nI c := by rw [h1, if_neg (by omega), if_neg (by omega)]; exact h5
    rw [L_X5_copyFrom_10.eq_2, e5, if_pos (by rw [zv_nIle (by omega) (by omega)]; omega)]
/-- the class's copy of one state into the other -/
theorem zv_x5_copy {i a c n1 n2 n3 p : Nat} (hia : (i = 0 ∧ a = 1) ∨ (i = 1 ∧ a = 0)) (hc : c ≤ 6) (S : St) (h5 : gI S 5 a 5 = nI c) (hn1 : n1 ≤ 4) (hn2 : n2 ≤ 5) (hn3 : n3 ≤ 8)
    (k1 : gI S 4 (3 * a) 2 = nI n1) (k2 : gI S 4 (3 * a + 1) 2 = nI n2) (k3 : gI S 4 (3 * a + 2) 2 = nI n3) (kp : gR S 5 a 8 = some p) :
    ∃ S', F_X5_copyFrom S i a = some ((), S') ∧ gJ S' = gJ S ∧ (∀ f b r, gR S' f b r = if f = 5 ∧ b = i ∧ r = 8 then some p else if f = 3 ∧ 6 * i ≤ b ∧ b < 6 * i + c ∧ r = 6 then none else gR S f b r) ∧
      ∀ f b r, gI S' f b r = if f = 5 ∧ b = i ∧ r = 5 then nI c else if f = 5 ∧ b = i ∧ r = 6 then gI S 5 a 6 else if f = 5 ∧ b = i ∧ r = 7 then gI S 5 a 7 else
        if f = 2 ∧ b = i ∧ r < 3 then gI S 2 a r else
        if f = 4 ∧ b = 3 * i ∧ r = 2 then nI n1 else if f = 4 ∧ b = 3 * i + 1 ∧ r = 2 then nI n2 else if f = 4 ∧ b = 3 * i + 2 ∧ r = 2 then nI n3 else
        if f = 14 ∧ b = 3 * i ∧ r < n1 then gI S 14 (3 * a) r else if f = 14 ∧ b = 3 * i + 1 ∧ r < n2 then gI S 14 (3 * a + 1) r else if f = 14 ∧ b = 3 * i + 2 ∧ r < n3 then gI S 14 (3 * a + 2) r else
        if f = 15 ∧ b = 3 * i ∧ r < n1 then gI S 15 (3 * a) r else if f = 15 ∧ b = 3 * i + 1 ∧ r < n2 then gI S 15 (3 * a + 1) r else if f = 15 ∧ b = 3 * i + 2 ∧ r < n3 then gI S 15 (3 * a + 2) r else
        if f = 3 ∧ 6 * i ≤ b ∧ b < 6 * i + c ∧ 2 ≤ r ∧ r ≤ 5 then gI S 3 (6 * a + (b - 6 * i)) r else if f = 13 ∧ 6 * i ≤ b ∧ b < 6 * i + c ∧ r < 4 then gI S 13 (6 * a + (b - 6 * i)) r else gI S f b r := by
  obtain ⟨T, ⟨t1, t2, t3⟩, et⟩ := zv_x5_loop hia hc (sI S 5 i 5 (gI S 5 a 5)) (by simp only [gI_sI, zv_gI_f, zv_gI_i, gI_sI, zv_gJ_f, zv_gIc_f, zv_gIc_i, zv_kJ_sI, zv_kR_sI, zv_kI_sJ, zv_kR_sJ, zv_kI_sR, zv_kJ_sR, zv_kJ_cI, zv_kR_cI, zv_kI_cJ, zv_kR_cJ, ne_eq, Nat.reduceEqDiff, Nat.reduceMul, Nat.reduceAdd, not_false_eq_true, not_true_eq_false, false_and, and_false, and_true, true_and, and_self, reduceIte, Nat.one_ne_zero, Nat.zero_ne_one, Nat.zero_add, Nat.mul_zero]; exact h5) (fun y2_1 T_1 => bnd (F_X2_copyFrom T_1 i a) (fun r2 S3 =>
  bnd (F_X4_copyFrom S3 (3 * i) (3 * a)) (fun r6 S7 =>
  bnd (F_X4_copyFrom S7 (3 * i + 1) (3 * a + 1)) (fun r10 S11 =>
  bnd (F_X4_copyFrom S11 (3 * i + 2) (3 * a + 2)) (fun r14 S15 =>
  (gR (sI (sI S15 5 i 6 (gI S15 5 a 6)) 5 i 7 (gI (sI S15 5 i 6 (gI S15 5 a 6)) 5 a 7)) 5 a 8).elim (some ((), (sR (sI (sI S15 5 i 6 (gI S15 5 a 6)) 5 i 7 (gI (sI S15 5 i 6 (gI S15 5 a 6)) 5 a 7)) 5 i 8 none)))
  (fun p18 => some ((), (sR (sI (sI S15 5 i 6 (gI S15 5 a 6)) 5 i 7 (gI (sI S15 5 i 6 (gI S15 5 a 6)) 5 a 7)) 5 i 8 (some p18)))))))))
  obtain ⟨U, eU, hU⟩ : ∃ U, F_X2_copyFrom T i a = some ((), U) ∧ (∀ f b r, gI U f b r = if f = 2 ∧ b = i ∧ r < 3 then gI T 2 a r else gI T f b r) ∧ gJ U = gJ T ∧ gR U = gR T := by
    refine ⟨_, rfl, fun f b r => ?_, rfl, rfl⟩
    simp only [gI_sI]
    by_cases zv_c1 : f = 2 ∧ b = i
    · obtain ⟨rfl, rfl⟩ := zv_c1
      have hab : ¬ a = b := by omega
      by_cases zv_d0 : r = 0
      · subst zv_d0; simp only [hab, zv_gI_f, zv_gI_i, gI_sI, zv_gJ_f, zv_gIc_f, zv_gIc_i, zv_kJ_sI, zv_kR_sI, zv_kI_sJ, zv_kR_sJ, zv_kI_sR, zv_kJ_sR, zv_kJ_cI, zv_kR_cI, zv_kI_cJ, zv_kR_cJ, ne_eq, Nat.reduceEqDiff, Nat.reduceMul, Nat.reduceAdd, not_false_eq_true, not_true_eq_false, false_and, and_false, and_true, true_and, and_self, reduceIte, Nat.one_ne_zero, Nat.zero_ne_one, Nat.zero_add, Nat.mul_zero]; rfl
      by_cases d1 : r = 1
      · subst d1; simp only [hab, zv_gI_f, zv_gI_i, gI_sI, zv_gJ_f, zv_gIc_f, zv_gIc_i, zv_kJ_sI, zv_kR_sI, zv_kI_sJ, zv_kR_sJ, zv_kI_sR, zv_kJ_sR, zv_kJ_cI, zv_kR_cI, zv_kI_cJ, zv_kR_cJ, ne_eq, Nat.reduceEqDiff, Nat.reduceMul, Nat.reduceAdd, not_false_eq_true, not_true_eq_false, false_and, and_false, and_true, true_and, and_self, reduceIte, Nat.one_ne_zero, Nat.zero_ne_one, Nat.zero_add, Nat.mul_zero]; rfl
      by_cases d2 : r = 2
      · subst d2; simp only [hab, zv_gI_f, zv_gI_i, gI_sI, zv_gJ_f, zv_gIc_f, zv_gIc_i, zv_kJ_sI, zv_kR_sI, zv_kI_sJ, zv_kR_sJ, zv_kI_sR, zv_kJ_sR, zv_kJ_cI, zv_kR_cI, zv_kI_cJ, zv_kR_cJ, ne_eq, Nat.reduceEqDiff, Nat.reduceMul, Nat.reduceAdd, not_false_eq_true, not_true_eq_false, false_and, and_false, and_true, true_and, and_self, reduceIte, Nat.one_ne_zero, Nat.zero_ne_one, Nat.zero_add, Nat.mul_zero]; rfl
      rw [if_neg (by omega), if_neg (by omega), if_neg (by omega), if_neg (by omega)]
    · rw [if_neg (by omega), if_neg (by omega), if_neg (by omega), if_neg (by omega)]
  obtain ⟨hU1, hU2, hU3⟩ := hU
  have kk : kl 14 (3 * i) = 4 ∧ kl 14 (3 * a) = 4 ∧ kl 15 (3 * i) = 4 ∧ kl 15 (3 * a) = 4 ∧ kl 14 (3 * i + 1) = 5 ∧ kl 14 (3 * a + 1) = 5 ∧ kl 15 (3 * i + 1) = 5 ∧ kl 15 (3 * a + 1) = 5 ∧ kl 14 (3 * i + 2) = 8 ∧ kl 14 (3 * a + 2) = 8 ∧ kl 15 (3 * i + 2) = 8 ∧ kl 15 (3 * a + 2) = 8 := by
    rcases hia with ⟨rfl, rfl⟩ | ⟨rfl, rfl⟩ <;> decide
  obtain ⟨q1, q2, q3, q4, q5, q6, q7, q8, q9, q10, q11, q12⟩ := kk
  have m1 : gI U 4 (3 * a) 2 = nI n1 := by rw [hU1, if_neg (by omega), t1, if_neg (by omega), if_neg (by omega), gI_sI, if_neg (by omega), k1]
  obtain ⟨V, eV, hV1, hV2, hV3⟩ := zv_x4_copy (S := U) (i := 3 * i) (a := 3 * a) m1 (by omega) (by omega) (by omega) (by omega) (by omega)
  have m2 : gI V 4 (3 * a + 1) 2 = nI n2 := by rw [hV1, if_neg (by omega), if_neg (by omega), if_neg (by omega), hU1, if_neg (by omega), t1, if_neg (by omega), if_neg (by omega), gI_sI, if_neg (by omega), k2]
  obtain ⟨W, eW, hW1, hW2, hW3⟩ := zv_x4_copy (S := V) (i := 3 * i + 1) (a := 3 * a + 1) m2 (by omega) (by omega) (by omega) (by omega) (by omega)
  have m3 : gI W 4 (3 * a + 2) 2 = nI n3 := by rw [hW1, if_neg (by omega), if_neg (by omega), if_neg (by omega), hV1, if_neg (by omega), if_neg (by omega), if_neg (by omega), hU1, if_neg (by omega), t1, if_neg (by omega), if_neg (by omega), gI_sI, if_neg (by omega), k3]
  obtain ⟨Z, eZ, hZ1, hZ2, hZ3⟩ := zv_x4_copy (S := W) (i := 3 * i + 2) (a := 3 * a + 2) m3 (by omega) (by omega) (by omega) (by omega) (by omega)
  have zs : ∀ r, r = 6 ∨ r = 7 → gI Z 5 a r = gI S 5 a r := fun r hr => by rw [hZ1, if_neg (by omega), if_neg (by omega), if_neg (by omega), hW1, if_neg (by omega), if_neg (by omega), if_neg (by omega), hV1, if_neg (by omega), if_neg (by omega), if_neg (by omega), hU1, if_neg (by omega), t1, if_neg (by omega), if_neg (by omega), gI_sI, if_neg (by omega)]
  have kZ : gR Z 5 a 8 = some p := by rw [hZ3, hW3, hV3, hU3, t3, if_neg (by omega)]; exact kp
  refine ⟨sR (sI (sI Z 5 i 6 (gI Z 5 a 6)) 5 i 7 (gI (sI Z 5 i 6 (gI Z 5 a 6)) 5 a 7)) 5 i 8 (some p), ?_, ?_, fun f b r => ?_, fun f b r => ?_⟩
  · unfold F_X5_copyFrom
    rw [show (0 : Int32) = nI 0 from rfl, et]
    simp only [eU, bnd, eV, eW, eZ]
    rw [show gR (sI (sI Z 5 i 6 (gI Z 5 a 6)) 5 i 7 (gI (sI Z 5 i 6 (gI Z 5 a 6)) 5 a 7)) 5 a 8 = some p from kZ]
    rfl
  · show gJ Z = gJ S
    rw [hZ2, hW2, hV2, hU2, t2]; rfl
  · rw [gR_sR]
    by_cases zv_c1 : f = 5 ∧ b = i ∧ r = 8
    · rw [if_pos zv_c1, if_pos zv_c1]
    · rw [if_neg zv_c1, if_neg zv_c1, show gR (sI (sI Z 5 i 6 (gI Z 5 a 6)) 5 i 7 (gI (sI Z 5 i 6 (gI Z 5 a 6)) 5 a 7)) f b r = gR Z f b r from rfl, hZ3, hW3, hV3, hU3, t3]
      rfl
  · rw [show gI (sR (sI (sI Z 5 i 6 (gI Z 5 a 6)) 5 i 7 (gI (sI Z 5 i 6 (gI Z 5 a 6)) 5 a 7)) 5 i 8 (some p)) f b r = gI (sI (sI Z 5 i 6 (gI Z 5 a 6)) 5 i 7 (gI (sI Z 5 i 6 (gI Z 5 a 6)) 5 a 7)) f b r from rfl]
    rw [gI_sI, gI_sI, gI_sI, if_neg (show ¬ (5 = 5 ∧ a = i ∧ 7 = 6) by omega), zs 6 (by omega), zs 7 (by omega)]
    by_cases zv_c1 : f = 5 ∧ b = i ∧ r = 5
    · rw [if_neg (by omega), if_neg (by omega), if_pos zv_c1, hZ1, if_neg (by omega), if_neg (by omega), if_neg (by omega), hW1, if_neg (by omega), if_neg (by omega), if_neg (by omega), hV1, if_neg (by omega), if_neg (by omega), if_neg (by omega), hU1, if_neg (by omega), t1, if_neg (by omega), if_neg (by omega), gI_sI, if_pos zv_c1, h5]
    rw [if_neg zv_c1]
    by_cases c2 : f = 5 ∧ b = i ∧ r = 6
    · rw [if_neg (by omega), if_pos c2, if_pos c2]
    rw [if_neg c2, if_neg c2]
    by_cases c3 : f = 5 ∧ b = i ∧ r = 7
    · rw [if_pos c3, if_pos c3]
    rw [if_neg c3, if_neg c3]
    by_cases c4 : f = 2 ∧ b = i ∧ r < 3
    · rw [if_pos c4, hZ1, if_neg (by omega), if_neg (by omega), if_neg (by omega), hW1, if_neg (by omega), if_neg (by omega), if_neg (by omega), hV1, if_neg (by omega), if_neg (by omega), if_neg (by omega), hU1, if_pos c4, t1, if_neg (by omega), if_neg (by omega), gI_sI, if_neg (by omega)]
    rw [if_neg c4]
    by_cases d1 : f = 4 ∧ b = 3 * i ∧ r = 2
    · rw [if_pos d1, hZ1, if_neg (by omega), if_neg (by omega), if_neg (by omega), hW1, if_neg (by omega), if_neg (by omega), if_neg (by omega), hV1, if_pos d1]
    rw [if_neg d1]
    by_cases d2 : f = 4 ∧ b = 3 * i + 1 ∧ r = 2
    · rw [if_pos d2, hZ1, if_neg (by omega), if_neg (by omega), if_neg (by omega), hW1, if_pos d2]
    rw [if_neg d2]
    by_cases d3 : f = 4 ∧ b = 3 * i + 2 ∧ r = 2
    · rw [if_pos d3, hZ1, if_pos d3]
    rw [if_neg d3]
    by_cases e1 : f = 14 ∧ b = 3 * i ∧ r < n1
    · rw [if_pos e1, hZ1, if_neg (by omega), if_neg (by omega), if_neg (by omega), hW1, if_neg (by omega), if_neg (by omega), if_neg (by omega), hV1, if_neg (by omega), if_pos e1, hU1, if_neg (by omega), t1, if_neg (by omega), if_neg (by omega), gI_sI, if_neg (by omega)]
    rw [if_neg e1]
    by_cases e2 : f = 14 ∧ b = 3 * i + 1 ∧ r < n2
    · rw [if_pos e2, hZ1, if_neg (by omega), if_neg (by omega), if_neg (by omega), hW1, if_neg (by omega), if_pos e2, hV1, if_neg (by omega), if_neg (by omega), if_neg (by omega), hU1, if_neg (by omega), t1, if_neg (by omega), if_neg (by omega), gI_sI, if_neg (by omega)]
    rw [if_neg e2]
    by_cases e3 : f = 14 ∧ b = 3 * i + 2 ∧ r < n3
    · rw [if_pos e3, hZ1, if_neg (by omega), if_pos e3, hW1, if_neg (by omega), if_neg (by omega), if_neg (by omega), hV1, if_neg (by omega), if_neg (by omega), if_neg (by omega), hU1, if_neg (by omega), t1, if_neg (by omega), if_neg (by omega), gI_sI, if_neg (by omega)]
    rw [if_neg e3]
    by_cases g1 : f = 15 ∧ b = 3 * i ∧ r < n1
    · rw [if_pos g1, hZ1, if_neg (by omega), if_neg (by omega), if_neg (by omega), hW1, if_neg (by omega), if_neg (by omega), if_neg (by omega), hV1, if_neg (by omega), if_neg (by omega), if_pos g1, hU1, if_neg (by omega), t1, if_neg (by omega), if_neg (by omega), gI_sI, if_neg (by omega)]
    rw [if_neg g1]
    by_cases g2 : f = 15 ∧ b = 3 * i + 1 ∧ r < n2
    · rw [if_pos g2, hZ1, if_neg (by omega), if_neg (by omega), if_neg (by omega), hW1, if_neg (by omega), if_neg (by omega), if_pos g2, hV1, if_neg (by omega), if_neg (by omega), if_neg (by omega), hU1, if_neg (by omega), t1, if_neg (by omega), if_neg (by omega), gI_sI, if_neg (by omega)]
    rw [if_neg g2]
    by_cases g3 : f = 15 ∧ b = 3 * i + 2 ∧ r < n3
    · rw [if_pos g3, hZ1, if_neg (by omega), if_neg (by omega), if_pos g3, hW1, if_neg (by omega), if_neg (by omega), if_neg (by omega), hV1, if_neg (by omega), if_neg (by omega), if_neg (by omega), hU1, if_neg (by omega), t1, if_neg (by omega), if_neg (by omega), gI_sI, if_neg (by omega)]
    rw [if_neg g3]
    rw [hZ1, if_neg d3, if_neg e3, if_neg g3, hW1, if_neg d2, if_neg e2, if_neg g2, hV1, if_neg d1, if_neg e1, if_neg g1, hU1, if_neg c4, t1]
    by_cases l1 : f = 3 ∧ 6 * i ≤ b ∧ b < 6 * i + c ∧ 2 ≤ r ∧ r ≤ 5
    · rw [if_pos l1, if_pos l1, gI_sI, if_neg (by omega)]
    rw [if_neg l1, if_neg l1]
    by_cases l2 : f = 13 ∧ 6 * i ≤ b ∧ b < 6 * i + c ∧ r < 4
    · rw [if_pos l2, if_pos l2, gI_sI, if_neg (by omega)]
    rw [if_neg l2, if_neg l2, gI_sI, if_neg zv_c1]
theorem zv_cp_image_87 (zv_S0 : St) (K : Int32 → St → Option (Int32 × St)) : ∃ T, ((∀ f i r, gI T f i r = if f = 42 ∧ i = 0 ∧ r < 6 then gI zv_S0 22 0 r else if f = 43 ∧ i = 0 ∧ r < 6 then gI zv_S0 23 0 r else if f = 44 ∧ i = 0 ∧ r < 6 then gI zv_S0 24 0 r else if f = 45 ∧ i = 0 ∧ r < 6 then gI zv_S0 25 0 r else gI zv_S0 f i r) ∧ gJ T = gJ zv_S0 ∧ gR T = gR zv_S0) ∧ L_X8_image_87 K 1000 (nI 0) zv_S0 = K (nI 6) T := by
  refine zv_lpI (L_X8_image_87 K) K 6 (fun j T => (∀ f i r, gI T f i r = if f = 42 ∧ i = 0 ∧ r < j then gI zv_S0 22 0 r else if f = 43 ∧ i = 0 ∧ r < j then gI zv_S0 23 0 r else if f = 44 ∧ i = 0 ∧ r < j then gI zv_S0 24 0 r else if f = 45 ∧ i = 0 ∧ r < j then gI zv_S0 25 0 r else gI zv_S0 f i r) ∧ gJ T = gJ zv_S0 ∧ gR T = gR zv_S0) ?_ ?_ 6 0 1000 zv_S0 rfl (by decide) ⟨fun f i r => by rw [if_neg (by omega), if_neg (by omega), if_neg (by omega), if_neg (by omega)], rfl, rfl⟩
  · intro n j S hj ⟨h1, h2, h3⟩
    have v22 : gI S 22 0 j = gI zv_S0 22 0 j := by rw [h1, if_neg (by omega), if_neg (by omega), if_neg (by omega), if_neg (by omega)]
    have v23 : gI S 23 0 j = gI zv_S0 23 0 j := by rw [h1, if_neg (by omega), if_neg (by omega), if_neg (by omega), if_neg (by omega)]
    have v24 : gI S 24 0 j = gI zv_S0 24 0 j := by rw [h1, if_neg (by omega), if_neg (by omega), if_neg (by omega), if_neg (by omega)]
    have v25 : gI S 25 0 j = gI zv_S0 25 0 j := by rw [h1, if_neg (by omega), if_neg (by omega), if_neg (by omega), if_neg (by omega)]
    refine ⟨sI (sI (sI (sI (S) 42 0 j (gI S 22 0 j)) 43 0 j (gI S 23 0 j)) 44 0 j (gI S 24 0 j)) 45 0 j (gI S 25 0 j), ⟨fun f i r => ?_, h2, h3⟩, ?_⟩
    · rw [gI_sI, gI_sI, gI_sI, gI_sI]
      by_cases c42 : f = 42 ∧ i = 0
      · obtain ⟨rfl, rfl⟩ := c42
        simp only [v22, zv_gI_f, zv_gI_i, gI_sI, zv_gJ_f, zv_gIc_f, zv_gIc_i, zv_kJ_sI, zv_kR_sI, zv_kI_sJ, zv_kR_sJ, zv_kI_sR, zv_kJ_sR, zv_kJ_cI, zv_kR_cI, zv_kI_cJ, zv_kR_cJ, ne_eq, Nat.reduceEqDiff, Nat.reduceMul, Nat.reduceAdd, not_false_eq_true, not_true_eq_false, false_and, and_false, and_true, true_and, and_self, reduceIte, Nat.one_ne_zero, Nat.zero_ne_one, Nat.zero_add, Nat.mul_zero]
        by_cases hr : r = j
        · rw [if_pos hr, if_pos (by omega), hr]
        · rw [if_neg hr, h1]
          simp only [zv_gI_f, zv_gI_i, gI_sI, zv_gJ_f, zv_gIc_f, zv_gIc_i, zv_kJ_sI, zv_kR_sI, zv_kI_sJ, zv_kR_sJ, zv_kI_sR, zv_kJ_sR, zv_kJ_cI, zv_kR_cI, zv_kI_cJ, zv_kR_cJ, ne_eq, Nat.reduceEqDiff, Nat.reduceMul, Nat.reduceAdd, not_false_eq_true, not_true_eq_false, false_and, and_false, and_true, true_and, and_self, reduceIte, Nat.one_ne_zero, Nat.zero_ne_one, Nat.zero_add, Nat.mul_zero]
          by_cases hr2 : r < j
          · rw [if_pos hr2, if_pos (by omega)]
          · rw [if_neg hr2, if_neg (by omega)]
      by_cases c43 : f = 43 ∧ i = 0
      · obtain ⟨rfl, rfl⟩ := c43
        simp only [v23, zv_gI_f, zv_gI_i, gI_sI, zv_gJ_f, zv_gIc_f, zv_gIc_i, zv_kJ_sI, zv_kR_sI, zv_kI_sJ, zv_kR_sJ, zv_kI_sR, zv_kJ_sR, zv_kJ_cI, zv_kR_cI, zv_kI_cJ, zv_kR_cJ, ne_eq, Nat.reduceEqDiff, Nat.reduceMul, Nat.reduceAdd, not_false_eq_true, not_true_eq_false, false_and, and_false, and_true, true_and, and_self, reduceIte, Nat.one_ne_zero, Nat.zero_ne_one, Nat.zero_add, Nat.mul_zero]
        by_cases hr : r = j
        · rw [if_pos hr, if_pos (by omega), hr]
        · rw [if_neg hr, h1]
          simp only [zv_gI_f, zv_gI_i, gI_sI, zv_gJ_f, zv_gIc_f, zv_gIc_i, zv_kJ_sI, zv_kR_sI, zv_kI_sJ, zv_kR_sJ, zv_kI_sR, zv_kJ_sR, zv_kJ_cI, zv_kR_cI, zv_kI_cJ, zv_kR_cJ, ne_eq, Nat.reduceEqDiff, Nat.reduceMul, Nat.reduceAdd, not_false_eq_true, not_true_eq_false, false_and, and_false, and_true, true_and, and_self, reduceIte, Nat.one_ne_zero, Nat.zero_ne_one, Nat.zero_add, Nat.mul_zero]
          by_cases hr2 : r < j
          · rw [if_pos hr2, if_pos (by omega)]
          · rw [if_neg hr2, if_neg (by omega)]
      by_cases c44 : f = 44 ∧ i = 0
      · obtain ⟨rfl, rfl⟩ := c44
        simp only [v24, zv_gI_f, zv_gI_i, gI_sI, zv_gJ_f, zv_gIc_f, zv_gIc_i, zv_kJ_sI, zv_kR_sI, zv_kI_sJ, zv_kR_sJ, zv_kI_sR, zv_kJ_sR, zv_kJ_cI, zv_kR_cI, zv_kI_cJ, zv_kR_cJ, ne_eq, Nat.reduceEqDiff, Nat.reduceMul, Nat.reduceAdd, not_false_eq_true, not_true_eq_false, false_and, and_false, and_true, true_and, and_self, reduceIte, Nat.one_ne_zero, Nat.zero_ne_one, Nat.zero_add, Nat.mul_zero]
        by_cases hr : r = j
        · rw [if_pos hr, if_pos (by omega), hr]
        · rw [if_neg hr, h1]
          simp only [zv_gI_f, zv_gI_i, gI_sI, zv_gJ_f, zv_gIc_f, zv_gIc_i, zv_kJ_sI, zv_kR_sI, zv_kI_sJ, zv_kR_sJ, zv_kI_sR, zv_kJ_sR, zv_kJ_cI, zv_kR_cI, zv_kI_cJ, zv_kR_cJ, ne_eq, Nat.reduceEqDiff, Nat.reduceMul, Nat.reduceAdd, not_false_eq_true, not_true_eq_false, false_and, and_false, and_true, true_and, and_self, reduceIte, Nat.one_ne_zero, Nat.zero_ne_one, Nat.zero_add, Nat.mul_zero]
          by_cases hr2 : r < j
          · rw [if_pos hr2, if_pos (by omega)]
          · rw [if_neg hr2, if_neg (by omega)]
      by_cases c45 : f = 45 ∧ i = 0
      · obtain ⟨rfl, rfl⟩ := c45
        simp only [v25, zv_gI_f, zv_gI_i, gI_sI, zv_gJ_f, zv_gIc_f, zv_gIc_i, zv_kJ_sI, zv_kR_sI, zv_kI_sJ, zv_kR_sJ, zv_kI_sR, zv_kJ_sR, zv_kJ_cI, zv_kR_cI, zv_kI_cJ, zv_kR_cJ, ne_eq, Nat.reduceEqDiff, Nat.reduceMul, Nat.reduceAdd, not_false_eq_true, not_true_eq_false, false_and, and_false, and_true, true_and, and_self, reduceIte, Nat.one_ne_zero, Nat.zero_ne_one, Nat.zero_add, Nat.mul_zero]
        by_cases hr : r = j
        · rw [if_pos hr, if_pos (by omega), hr]
        · rw [if_neg hr, h1]
          simp only [zv_gI_f, zv_gI_i, gI_sI, zv_gJ_f, zv_gIc_f, zv_gIc_i, zv_kJ_sI, zv_kR_sI, zv_kI_sJ, zv_kR_sJ, zv_kI_sR, zv_kJ_sR, zv_kJ_cI, zv_kR_cI, zv_kI_cJ, zv_kR_cJ, ne_eq, Nat.reduceEqDiff, Nat.reduceMul, Nat.reduceAdd, not_false_eq_true, not_true_eq_false, false_and, and_false, and_true, true_and, and_self, reduceIte, Nat.one_ne_zero, Nat.zero_ne_one, Nat.zero_add, Nat.mul_zero]
          by_cases hr2 : r < j
          · rw [if_pos hr2, if_pos (by omega)]
          · rw [if_neg hr2, if_neg (by omega)]
      rw [if_neg (by omega), if_neg (by omega), if_neg (by omega), if_neg (by omega), h1, if_neg (by omega), if_neg (by omega), if_neg (by omega), if_neg (by omega), if_neg (by omega), if_neg (by omega), if_neg (by omega), if_neg (by omega)]
    · rw [L_X8_image_87.eq_2, if_neg (by show ¬ nI 6 ≤ nI j; rw [zv_nIle (by omega) (by omega)]; omega), if_pos (zv_gd hj), if_pos (zv_gd hj), if_pos (zv_gd hj), if_pos (zv_gd hj), if_pos (zv_gd hj), if_pos (zv_gd hj), if_pos (zv_gd hj), if_pos (zv_gd hj), zv_nIcl (by omega), zv_nIs j (by omega)]
      simp only [gI_sI, zv_gI_f, zv_gI_i, gI_sI, zv_gJ_f, zv_gIc_f, zv_gIc_i, zv_kJ_sI, zv_kR_sI, zv_kI_sJ, zv_kR_sJ, zv_kI_sR, zv_kJ_sR, zv_kJ_cI, zv_kR_cI, zv_kI_cJ, zv_kR_cJ, ne_eq, Nat.reduceEqDiff, Nat.reduceMul, Nat.reduceAdd, not_false_eq_true, not_true_eq_false, false_and, and_false, and_true, true_and, and_self, reduceIte, Nat.one_ne_zero, Nat.zero_ne_one, Nat.zero_add, Nat.mul_zero]
  · intro n S _
    rw [L_X8_image_87.eq_2, if_pos (by show nI 6 ≤ nI 6; rw [zv_nIle (by omega) (by omega)]; omega)]
theorem zv_cp_image_149 (zv_S0 : St) (K : Int32 → St → Option (Int32 × St)) : ∃ T, ((∀ f i r, gI T f i r = if f = 46 ∧ i = 0 ∧ r < 24 then gI zv_S0 26 0 r else gI zv_S0 f i r) ∧ gJ T = gJ zv_S0 ∧ gR T = gR zv_S0) ∧ L_X8_image_149 K 1000 (nI 0) zv_S0 = K (nI 24) T := by
  refine zv_lpI (L_X8_image_149 K) K 24 (fun j T => (∀ f i r, gI T f i r = if f = 46 ∧ i = 0 ∧ r < j then gI zv_S0 26 0 r else gI zv_S0 f i r) ∧ gJ T = gJ zv_S0 ∧ gR T = gR zv_S0) ?_ ?_ 24 0 1000 zv_S0 rfl (by decide) ⟨fun f i r => by rw [if_neg (by omega)], rfl, rfl⟩
  · intro n j S hj ⟨h1, h2, h3⟩
    have v26 : gI S 26 0 j = gI zv_S0 26 0 j := by rw [h1, if_neg (by omega)]
    refine ⟨sI (S) 46 0 j (gI S 26 0 j), ⟨fun f i r => ?_, h2, h3⟩, ?_⟩
    · rw [gI_sI]
      by_cases c46 : f = 46 ∧ i = 0
      · obtain ⟨rfl, rfl⟩ := c46
        simp only [v26, zv_gI_f, zv_gI_i, gI_sI, zv_gJ_f, zv_gIc_f, zv_gIc_i, zv_kJ_sI, zv_kR_sI, zv_kI_sJ, zv_kR_sJ, zv_kI_sR, zv_kJ_sR, zv_kJ_cI, zv_kR_cI, zv_kI_cJ, zv_kR_cJ, ne_eq, Nat.reduceEqDiff, Nat.reduceMul, Nat.reduceAdd, not_false_eq_true, not_true_eq_false, false_and, and_false, and_true, true_and, and_self, reduceIte, Nat.one_ne_zero, Nat.zero_ne_one, Nat.zero_add, Nat.mul_zero]
        by_cases hr : r = j
        · rw [if_pos hr, if_pos (by omega), hr]
        · rw [if_neg hr, h1]
          simp only [zv_gI_f, zv_gI_i, gI_sI, zv_gJ_f, zv_gIc_f, zv_gIc_i, zv_kJ_sI, zv_kR_sI, zv_kI_sJ, zv_kR_sJ, zv_kI_sR, zv_kJ_sR, zv_kJ_cI, zv_kR_cI, zv_kI_cJ, zv_kR_cJ, ne_eq, Nat.reduceEqDiff, Nat.reduceMul, Nat.reduceAdd, not_false_eq_true, not_true_eq_false, false_and, and_false, and_true, true_and, and_self, reduceIte, Nat.one_ne_zero, Nat.zero_ne_one, Nat.zero_add, Nat.mul_zero]
          by_cases hr2 : r < j
          · rw [if_pos hr2, if_pos (by omega)]
          · rw [if_neg hr2, if_neg (by omega)]
      rw [if_neg (by omega), h1, if_neg (by omega), if_neg (by omega)]
    · rw [L_X8_image_149.eq_2, if_neg (by show ¬ nI 24 ≤ nI j; rw [zv_nIle (by omega) (by omega)]; omega), if_pos (zv_gd hj), if_pos (zv_gd hj), zv_nIcl (by omega), zv_nIs j (by omega)]
  · intro n S _
    rw [L_X8_image_149.eq_2, if_pos (by show nI 24 ≤ nI 24; rw [zv_nIle (by omega) (by omega)]; omega)]
theorem zv_cp_image_175 (zv_S0 : St) (K : Int32 → St → Option (Int32 × St)) : ∃ T, ((∀ f i r, gI T f i r = if f = 47 ∧ i = 0 ∧ r < 4 then gI zv_S0 37 0 r else if f = 48 ∧ i = 0 ∧ r < 4 then gI zv_S0 38 0 r else gI zv_S0 f i r) ∧ gJ T = gJ zv_S0 ∧ gR T = gR zv_S0) ∧ L_X8_image_175 K 1000 (nI 0) zv_S0 = K (nI 4) T := by
  refine zv_lpI (L_X8_image_175 K) K 4 (fun j T => (∀ f i r, gI T f i r = if f = 47 ∧ i = 0 ∧ r < j then gI zv_S0 37 0 r else if f = 48 ∧ i = 0 ∧ r < j then gI zv_S0 38 0 r else gI zv_S0 f i r) ∧ gJ T = gJ zv_S0 ∧ gR T = gR zv_S0) ?_ ?_ 4 0 1000 zv_S0 rfl (by decide) ⟨fun f i r => by rw [if_neg (by omega), if_neg (by omega)], rfl, rfl⟩
  · intro n j S hj ⟨h1, h2, h3⟩
    have v37 : gI S 37 0 j = gI zv_S0 37 0 j := by rw [h1, if_neg (by omega), if_neg (by omega)]
    have v38 : gI S 38 0 j = gI zv_S0 38 0 j := by rw [h1, if_neg (by omega), if_neg (by omega)]
    refine ⟨sI (sI (S) 47 0 j (gI S 37 0 j)) 48 0 j (gI S 38 0 j), ⟨fun f i r => ?_, h2, h3⟩, ?_⟩
    · rw [gI_sI, gI_sI]
      by_cases c47 : f = 47 ∧ i = 0
      · obtain ⟨rfl, rfl⟩ := c47
        simp only [v37, zv_gI_f, zv_gI_i, gI_sI, zv_gJ_f, zv_gIc_f, zv_gIc_i, zv_kJ_sI, zv_kR_sI, zv_kI_sJ, zv_kR_sJ, zv_kI_sR, zv_kJ_sR, zv_kJ_cI, zv_kR_cI, zv_kI_cJ, zv_kR_cJ, ne_eq, Nat.reduceEqDiff, Nat.reduceMul, Nat.reduceAdd, not_false_eq_true, not_true_eq_false, false_and, and_false, and_true, true_and, and_self, reduceIte, Nat.one_ne_zero, Nat.zero_ne_one, Nat.zero_add, Nat.mul_zero]
        by_cases hr : r = j
        · rw [if_pos hr, if_pos (by omega), hr]
        · rw [if_neg hr, h1]
          simp only [zv_gI_f, zv_gI_i, gI_sI, zv_gJ_f, zv_gIc_f, zv_gIc_i, zv_kJ_sI, zv_kR_sI, zv_kI_sJ, zv_kR_sJ, zv_kI_sR, zv_kJ_sR, zv_kJ_cI, zv_kR_cI, zv_kI_cJ, zv_kR_cJ, ne_eq, Nat.reduceEqDiff, Nat.reduceMul, Nat.reduceAdd, not_false_eq_true, not_true_eq_false, false_and, and_false, and_true, true_and, and_self, reduceIte, Nat.one_ne_zero, Nat.zero_ne_one, Nat.zero_add, Nat.mul_zero]
          by_cases hr2 : r < j
          · rw [if_pos hr2, if_pos (by omega)]
          · rw [if_neg hr2, if_neg (by omega)]
      by_cases c48 : f = 48 ∧ i = 0
      · obtain ⟨rfl, rfl⟩ := c48
        simp only [v38, zv_gI_f, zv_gI_i, gI_sI, zv_gJ_f, zv_gIc_f, zv_gIc_i, zv_kJ_sI, zv_kR_sI, zv_kI_sJ, zv_kR_sJ, zv_kI_sR, zv_kJ_sR, zv_kJ_cI, zv_kR_cI, zv_kI_cJ, zv_kR_cJ, ne_eq, Nat.reduceEqDiff, Nat.reduceMul, Nat.reduceAdd, not_false_eq_true, not_true_eq_false, false_and, and_false, and_true, true_and, and_self, reduceIte, Nat.one_ne_zero, Nat.zero_ne_one, Nat.zero_add, Nat.mul_zero]
        by_cases hr : r = j
        · rw [if_pos hr, if_pos (by omega), hr]
        · rw [if_neg hr, h1]
          simp only [zv_gI_f, zv_gI_i, gI_sI, zv_gJ_f, zv_gIc_f, zv_gIc_i, zv_kJ_sI, zv_kR_sI, zv_kI_sJ, zv_kR_sJ, zv_kI_sR, zv_kJ_sR, zv_kJ_cI, zv_kR_cI, zv_kI_cJ, zv_kR_cJ, ne_eq, Nat.reduceEqDiff, Nat.reduceMul, Nat.reduceAdd, not_false_eq_true, not_true_eq_false, false_and, and_false, and_true, true_and, and_self, reduceIte, Nat.one_ne_zero, Nat.zero_ne_one, Nat.zero_add, Nat.mul_zero]
          by_cases hr2 : r < j
          · rw [if_pos hr2, if_pos (by omega)]
          · rw [if_neg hr2, if_neg (by omega)]
      rw [if_neg (by omega), if_neg (by omega), h1, if_neg (by omega), if_neg (by omega), if_neg (by omega), if_neg (by omega)]
    · rw [L_X8_image_175.eq_2, if_neg (by show ¬ nI 4 ≤ nI j; rw [zv_nIle (by omega) (by omega)]; omega), if_pos (zv_gd hj), if_pos (zv_gd hj), if_pos (zv_gd hj), if_pos (zv_gd hj), zv_nIcl (by omega), zv_nIs j (by omega)]
      simp only [gI_sI, zv_gI_f, zv_gI_i, gI_sI, zv_gJ_f, zv_gIc_f, zv_gIc_i, zv_kJ_sI, zv_kR_sI, zv_kI_sJ, zv_kR_sJ, zv_kI_sR, zv_kJ_sR, zv_kJ_cI, zv_kR_cI, zv_kI_cJ, zv_kR_cJ, ne_eq, Nat.reduceEqDiff, Nat.reduceMul, Nat.reduceAdd, not_false_eq_true, not_true_eq_false, false_and, and_false, and_true, true_and, and_self, reduceIte, Nat.one_ne_zero, Nat.zero_ne_one, Nat.zero_add, Nat.mul_zero]
  · intro n S _
    rw [L_X8_image_175.eq_2, if_pos (by show nI 4 ≤ nI 4; rw [zv_nIle (by omega) (by omega)]; omega)]
theorem zv_cp_image_212 (zv_S0 : St) (K : Int32 → St → Option (Int32 × St)) : ∃ T, ((∀ f i r, gI T f i r = if f = 49 ∧ i = 0 ∧ r < 5 then gI zv_S0 39 0 r else gI zv_S0 f i r) ∧ gJ T = gJ zv_S0 ∧ gR T = gR zv_S0) ∧ L_X8_image_212 K 1000 (nI 0) zv_S0 = K (nI 5) T := by
  refine zv_lpI (L_X8_image_212 K) K 5 (fun j T => (∀ f i r, gI T f i r = if f = 49 ∧ i = 0 ∧ r < j then gI zv_S0 39 0 r else gI zv_S0 f i r) ∧ gJ T = gJ zv_S0 ∧ gR T = gR zv_S0) ?_ ?_ 5 0 1000 zv_S0 rfl (by decide) ⟨fun f i r => by rw [if_neg (by omega)], rfl, rfl⟩
  · intro n j S hj ⟨h1, h2, h3⟩
    have v39 : gI S 39 0 j = gI zv_S0 39 0 j := by rw [h1, if_neg (by omega)]
    refine ⟨sI (S) 49 0 j (gI S 39 0 j), ⟨fun f i r => ?_, h2, h3⟩, ?_⟩
    · rw [gI_sI]
      by_cases c49 : f = 49 ∧ i = 0
      · obtain ⟨rfl, rfl⟩ := c49
        simp only [v39, zv_gI_f, zv_gI_i, gI_sI, zv_gJ_f, zv_gIc_f, zv_gIc_i, zv_kJ_sI, zv_kR_sI, zv_kI_sJ, zv_kR_sJ, zv_kI_sR, zv_kJ_sR, zv_kJ_cI, zv_kR_cI, zv_kI_cJ, zv_kR_cJ, ne_eq, Nat.reduceEqDiff, Nat.reduceMul, Nat.reduceAdd, not_false_eq_true, not_true_eq_false, false_and, and_false, and_true, true_and, and_self, reduceIte, Nat.one_ne_zero, Nat.zero_ne_one, Nat.zero_add, Nat.mul_zero]
        by_cases hr : r = j
        · rw [if_pos hr, if_pos (by omega), hr]
        · rw [if_neg hr, h1]
          simp only [zv_gI_f, zv_gI_i, gI_sI, zv_gJ_f, zv_gIc_f, zv_gIc_i, zv_kJ_sI, zv_kR_sI, zv_kI_sJ, zv_kR_sJ, zv_kI_sR, zv_kJ_sR, zv_kJ_cI, zv_kR_cI, zv_kI_cJ, zv_kR_cJ, ne_eq, Nat.reduceEqDiff, Nat.reduceMul, Nat.reduceAdd, not_false_eq_true, not_true_eq_false, false_and, and_false, and_true, true_and, and_self, reduceIte, Nat.one_ne_zero, Nat.zero_ne_one, Nat.zero_add, Nat.mul_zero]
          by_cases hr2 : r < j
          · rw [if_pos hr2, if_pos (by omega)]
          · rw [if_neg hr2, if_neg (by omega)]
      rw [if_neg (by omega), h1, if_neg (by omega), if_neg (by omega)]
    · rw [L_X8_image_212.eq_2, if_neg (by show ¬ nI 5 ≤ nI j; rw [zv_nIle (by omega) (by omega)]; omega), if_pos (zv_gd hj), if_pos (zv_gd hj), zv_nIcl (by omega), zv_nIs j (by omega)]
  · intro n S _
    rw [L_X8_image_212.eq_2, if_pos (by show nI 5 ≤ nI 5; rw [zv_nIle (by omega) (by omega)]; omega)]
theorem zv_cp_image_237 (zv_S0 : St) (K : Int32 → St → Option (Int32 × St)) : ∃ T, ((∀ f i r, gI T f i r = if f = 50 ∧ i = 0 ∧ r < 8 then gI zv_S0 40 0 r else if f = 51 ∧ i = 0 ∧ r < 8 then gI zv_S0 41 0 r else gI zv_S0 f i r) ∧ gJ T = gJ zv_S0 ∧ gR T = gR zv_S0) ∧ L_X8_image_237 K 1000 (nI 0) zv_S0 = K (nI 8) T := by
  refine zv_lpI (L_X8_image_237 K) K 8 (fun j T => (∀ f i r, gI T f i r = if f = 50 ∧ i = 0 ∧ r < j then gI zv_S0 40 0 r else if f = 51 ∧ i = 0 ∧ r < j then gI zv_S0 41 0 r else gI zv_S0 f i r) ∧ gJ T = gJ zv_S0 ∧ gR T = gR zv_S0) ?_ ?_ 8 0 1000 zv_S0 rfl (by decide) ⟨fun f i r => by rw [if_neg (by omega), if_neg (by omega)], rfl, rfl⟩
  · intro n j S hj ⟨h1, h2, h3⟩
    have v40 : gI S 40 0 j = gI zv_S0 40 0 j := by rw [h1, if_neg (by omega), if_neg (by omega)]
    have v41 : gI S 41 0 j = gI zv_S0 41 0 j := by rw [h1, if_neg (by omega), if_neg (by omega)]
    refine ⟨sI (sI (S) 50 0 j (gI S 40 0 j)) 51 0 j (gI S 41 0 j), ⟨fun f i r => ?_, h2, h3⟩, ?_⟩
    · rw [gI_sI, gI_sI]
      by_cases c50 : f = 50 ∧ i = 0
      · obtain ⟨rfl, rfl⟩ := c50
        simp only [v40, zv_gI_f, zv_gI_i, gI_sI, zv_gJ_f, zv_gIc_f, zv_gIc_i, zv_kJ_sI, zv_kR_sI, zv_kI_sJ, zv_kR_sJ, zv_kI_sR, zv_kJ_sR, zv_kJ_cI, zv_kR_cI, zv_kI_cJ, zv_kR_cJ, ne_eq, Nat.reduceEqDiff, Nat.reduceMul, Nat.reduceAdd, not_false_eq_true, not_true_eq_false, false_and, and_false, and_true, true_and, and_self, reduceIte, Nat.one_ne_zero, Nat.zero_ne_one, Nat.zero_add, Nat.mul_zero]
        by_cases hr : r = j
        · rw [if_pos hr, if_pos (by omega), hr]
        · rw [if_neg hr, h1]
          simp only [zv_gI_f, zv_gI_i, gI_sI, zv_gJ_f, zv_gIc_f, zv_gIc_i, zv_kJ_sI, zv_kR_sI, zv_kI_sJ, zv_kR_sJ, zv_kI_sR, zv_kJ_sR, zv_kJ_cI, zv_kR_cI, zv_kI_cJ, zv_kR_cJ, ne_eq, Nat.reduceEqDiff, Nat.reduceMul, Nat.reduceAdd, not_false_eq_true, not_true_eq_false, false_and, and_false, and_true, true_and, and_self, reduceIte, Nat.one_ne_zero, Nat.zero_ne_one, Nat.zero_add, Nat.mul_zero]
          by_cases hr2 : r < j
          · rw [if_pos hr2, if_pos (by omega)]
          · rw [if_neg hr2, if_neg (by omega)]
      by_cases c51 : f = 51 ∧ i = 0
      · obtain ⟨rfl, rfl⟩ := c51
        simp only [v41, zv_gI_f, zv_gI_i, gI_sI, zv_gJ_f, zv_gIc_f, zv_gIc_i, zv_kJ_sI, zv_kR_sI, zv_kI_sJ, zv_kR_sJ, zv_kI_sR, zv_kJ_sR, zv_kJ_cI, zv_kR_cI, zv_kI_cJ, zv_kR_cJ, ne_eq, Nat.reduceEqDiff, Nat.reduceMul, Nat.reduceAdd, not_false_eq_true, not_true_eq_false, false_and, and_false, and_true, true_and, and_self, reduceIte, Nat.one_ne_zero, Nat.zero_ne_one, Nat.zero_add, Nat.mul_zero]
        by_cases hr : r = j
        · rw [if_pos hr, if_pos (by omega), hr]
        · rw [if_neg hr, h1]
          simp only [zv_gI_f, zv_gI_i, gI_sI, zv_gJ_f, zv_gIc_f, zv_gIc_i, zv_kJ_sI, zv_kR_sI, zv_kI_sJ, zv_kR_sJ, zv_kI_sR, zv_kJ_sR, zv_kJ_cI, zv_kR_cI, zv_kI_cJ, zv_kR_cJ, ne_eq, Nat.reduceEqDiff, Nat.reduceMul, Nat.reduceAdd, not_false_eq_true, not_true_eq_false, false_and, and_false, and_true, true_and, and_self, reduceIte, Nat.one_ne_zero, Nat.zero_ne_one, Nat.zero_add, Nat.mul_zero]
          by_cases hr2 : r < j
          · rw [if_pos hr2, if_pos (by omega)]
          · rw [if_neg hr2, if_neg (by omega)]
      rw [if_neg (by omega), if_neg (by omega), h1, if_neg (by omega), if_neg (by omega), if_neg (by omega), if_neg (by omega)]
    · rw [L_X8_image_237.eq_2, if_neg (by show ¬ nI 8 ≤ nI j; rw [zv_nIle (by omega) (by omega)]; omega), if_pos (zv_gd hj), if_pos (zv_gd hj), if_pos (zv_gd hj), if_pos (zv_gd hj), zv_nIcl (by omega), zv_nIs j (by omega)]
      simp only [gI_sI, zv_gI_f, zv_gI_i, gI_sI, zv_gJ_f, zv_gIc_f, zv_gIc_i, zv_kJ_sI, zv_kR_sI, zv_kI_sJ, zv_kR_sJ, zv_kI_sR, zv_kJ_sR, zv_kJ_cI, zv_kR_cI, zv_kI_cJ, zv_kR_cJ, ne_eq, Nat.reduceEqDiff, Nat.reduceMul, Nat.reduceAdd, not_false_eq_true, not_true_eq_false, false_and, and_false, and_true, true_and, and_self, reduceIte, Nat.one_ne_zero, Nat.zero_ne_one, Nat.zero_add, Nat.mul_zero]
  · intro n S _
    rw [L_X8_image_237.eq_2, if_pos (by show nI 8 ≤ nI 8; rw [zv_nIle (by omega) (by omega)]; omega)]
theorem zv_cp_undo_92 (zv_S0 : St) (K : Int32 → St → Option (Int32 × St)) : ∃ T, ((∀ f i r, gI T f i r = if f = 22 ∧ i = 0 ∧ r < 6 then gI zv_S0 42 0 r else if f = 23 ∧ i = 0 ∧ r < 6 then gI zv_S0 43 0 r else if f = 24 ∧ i = 0 ∧ r < 6 then gI zv_S0 44 0 r else if f = 25 ∧ i = 0 ∧ r < 6 then gI zv_S0 45 0 r else gI zv_S0 f i r) ∧ gJ T = gJ zv_S0 ∧ gR T = gR zv_S0) ∧ L_X8_undo_92 K 1000 (nI 0) zv_S0 = K (nI 6) T := by
  refine zv_lpI (L_X8_undo_92 K) K 6 (fun j T => (∀ f i r, gI T f i r = if f = 22 ∧ i = 0 ∧ r < j then gI zv_S0 42 0 r else if f = 23 ∧ i = 0 ∧ r < j then gI zv_S0 43 0 r else if f = 24 ∧ i = 0 ∧ r < j then gI zv_S0 44 0 r else if f = 25 ∧ i = 0 ∧ r < j then gI zv_S0 45 0 r else gI zv_S0 f i r) ∧ gJ T = gJ zv_S0 ∧ gR T = gR zv_S0) ?_ ?_ 6 0 1000 zv_S0 rfl (by decide) ⟨fun f i r => by rw [if_neg (by omega), if_neg (by omega), if_neg (by omega), if_neg (by omega)], rfl, rfl⟩
  · intro n j S hj ⟨h1, h2, h3⟩
    have v42 : gI S 42 0 j = gI zv_S0 42 0 j := by rw [h1, if_neg (by omega), if_neg (by omega), if_neg (by omega), if_neg (by omega)]
    have v43 : gI S 43 0 j = gI zv_S0 43 0 j := by rw [h1, if_neg (by omega), if_neg (by omega), if_neg (by omega), if_neg (by omega)]
    have v44 : gI S 44 0 j = gI zv_S0 44 0 j := by rw [h1, if_neg (by omega), if_neg (by omega), if_neg (by omega), if_neg (by omega)]
    have v45 : gI S 45 0 j = gI zv_S0 45 0 j := by rw [h1, if_neg (by omega), if_neg (by omega), if_neg (by omega), if_neg (by omega)]
    refine ⟨sI (sI (sI (sI (S) 22 0 j (gI S 42 0 j)) 23 0 j (gI S 43 0 j)) 24 0 j (gI S 44 0 j)) 25 0 j (gI S 45 0 j), ⟨fun f i r => ?_, h2, h3⟩, ?_⟩
    · rw [gI_sI, gI_sI, gI_sI, gI_sI]
      by_cases c22 : f = 22 ∧ i = 0
      · obtain ⟨rfl, rfl⟩ := c22
        simp only [v42, zv_gI_f, zv_gI_i, gI_sI, zv_gJ_f, zv_gIc_f, zv_gIc_i, zv_kJ_sI, zv_kR_sI, zv_kI_sJ, zv_kR_sJ, zv_kI_sR, zv_kJ_sR, zv_kJ_cI, zv_kR_cI, zv_kI_cJ, zv_kR_cJ, ne_eq, Nat.reduceEqDiff, Nat.reduceMul, Nat.reduceAdd, not_false_eq_true, not_true_eq_false, false_and, and_false, and_true, true_and, and_self, reduceIte, Nat.one_ne_zero, Nat.zero_ne_one, Nat.zero_add, Nat.mul_zero]
        by_cases hr : r = j
        · rw [if_pos hr, if_pos (by omega), hr]
        · rw [if_neg hr, h1]
          simp only [zv_gI_f, zv_gI_i, gI_sI, zv_gJ_f, zv_gIc_f, zv_gIc_i, zv_kJ_sI, zv_kR_sI, zv_kI_sJ, zv_kR_sJ, zv_kI_sR, zv_kJ_sR, zv_kJ_cI, zv_kR_cI, zv_kI_cJ, zv_kR_cJ, ne_eq, Nat.reduceEqDiff, Nat.reduceMul, Nat.reduceAdd, not_false_eq_true, not_true_eq_false, false_and, and_false, and_true, true_and, and_self, reduceIte, Nat.one_ne_zero, Nat.zero_ne_one, Nat.zero_add, Nat.mul_zero]
          by_cases hr2 : r < j
          · rw [if_pos hr2, if_pos (by omega)]
          · rw [if_neg hr2, if_neg (by omega)]
      by_cases c23 : f = 23 ∧ i = 0
      · obtain ⟨rfl, rfl⟩ := c23
        simp only [v43, zv_gI_f, zv_gI_i, gI_sI, zv_gJ_f, zv_gIc_f, zv_gIc_i, zv_kJ_sI, zv_kR_sI, zv_kI_sJ, zv_kR_sJ, zv_kI_sR, zv_kJ_sR, zv_kJ_cI, zv_kR_cI, zv_kI_cJ, zv_kR_cJ, ne_eq, Nat.reduceEqDiff, Nat.reduceMul, Nat.reduceAdd, not_false_eq_true, not_true_eq_false, false_and, and_false, and_true, true_and, and_self, reduceIte, Nat.one_ne_zero, Nat.zero_ne_one, Nat.zero_add, Nat.mul_zero]
        by_cases hr : r = j
        · rw [if_pos hr, if_pos (by omega), hr]
        · rw [if_neg hr, h1]
          simp only [zv_gI_f, zv_gI_i, gI_sI, zv_gJ_f, zv_gIc_f, zv_gIc_i, zv_kJ_sI, zv_kR_sI, zv_kI_sJ, zv_kR_sJ, zv_kI_sR, zv_kJ_sR, zv_kJ_cI, zv_kR_cI, zv_kI_cJ, zv_kR_cJ, ne_eq, Nat.reduceEqDiff, Nat.reduceMul, Nat.reduceAdd, not_false_eq_true, not_true_eq_false, false_and, and_false, and_true, true_and, and_self, reduceIte, Nat.one_ne_zero, Nat.zero_ne_one, Nat.zero_add, Nat.mul_zero]
          by_cases hr2 : r < j
          · rw [if_pos hr2, if_pos (by omega)]
          · rw [if_neg hr2, if_neg (by omega)]
      by_cases c24 : f = 24 ∧ i = 0
      · obtain ⟨rfl, rfl⟩ := c24
        simp only [v44, zv_gI_f, zv_gI_i, gI_sI, zv_gJ_f, zv_gIc_f, zv_gIc_i, zv_kJ_sI, zv_kR_sI, zv_kI_sJ, zv_kR_sJ, zv_kI_sR, zv_kJ_sR, zv_kJ_cI, zv_kR_cI, zv_kI_cJ, zv_kR_cJ, ne_eq, Nat.reduceEqDiff, Nat.reduceMul, Nat.reduceAdd, not_false_eq_true, not_true_eq_false, false_and, and_false, and_true, true_and, and_self, reduceIte, Nat.one_ne_zero, Nat.zero_ne_one, Nat.zero_add, Nat.mul_zero]
        by_cases hr : r = j
        · rw [if_pos hr, if_pos (by omega), hr]
        · rw [if_neg hr, h1]
          simp only [zv_gI_f, zv_gI_i, gI_sI, zv_gJ_f, zv_gIc_f, zv_gIc_i, zv_kJ_sI, zv_kR_sI, zv_kI_sJ, zv_kR_sJ, zv_kI_sR, zv_kJ_sR, zv_kJ_cI, zv_kR_cI, zv_kI_cJ, zv_kR_cJ, ne_eq, Nat.reduceEqDiff, Nat.reduceMul, Nat.reduceAdd, not_false_eq_true, not_true_eq_false, false_and, and_false, and_true, true_and, and_self, reduceIte, Nat.one_ne_zero, Nat.zero_ne_one, Nat.zero_add, Nat.mul_zero]
          by_cases hr2 : r < j
          · rw [if_pos hr2, if_pos (by omega)]
          · rw [if_neg hr2, if_neg (by omega)]
      by_cases c25 : f = 25 ∧ i = 0
      · obtain ⟨rfl, rfl⟩ := c25
        simp only [v45, zv_gI_f, zv_gI_i, gI_sI, zv_gJ_f, zv_gIc_f, zv_gIc_i, zv_kJ_sI, zv_kR_sI, zv_kI_sJ, zv_kR_sJ, zv_kI_sR, zv_kJ_sR, zv_kJ_cI, zv_kR_cI, zv_kI_cJ, zv_kR_cJ, ne_eq, Nat.reduceEqDiff, Nat.reduceMul, Nat.reduceAdd, not_false_eq_true, not_true_eq_false, false_and, and_false, and_true, true_and, and_self, reduceIte, Nat.one_ne_zero, Nat.zero_ne_one, Nat.zero_add, Nat.mul_zero]
        by_cases hr : r = j
        · rw [if_pos hr, if_pos (by omega), hr]
        · rw [if_neg hr, h1]
          simp only [zv_gI_f, zv_gI_i, gI_sI, zv_gJ_f, zv_gIc_f, zv_gIc_i, zv_kJ_sI, zv_kR_sI, zv_kI_sJ, zv_kR_sJ, zv_kI_sR, zv_kJ_sR, zv_kJ_cI, zv_kR_cI, zv_kI_cJ, zv_kR_cJ, ne_eq, Nat.reduceEqDiff, Nat.reduceMul, Nat.reduceAdd, not_false_eq_true, not_true_eq_false, false_and, and_false, and_true, true_and, and_self, reduceIte, Nat.one_ne_zero, Nat.zero_ne_one, Nat.zero_add, Nat.mul_zero]
          by_cases hr2 : r < j
          · rw [if_pos hr2, if_pos (by omega)]
          · rw [if_neg hr2, if_neg (by omega)]
      rw [if_neg (by omega), if_neg (by omega), if_neg (by omega), if_neg (by omega), h1, if_neg (by omega), if_neg (by omega), if_neg (by omega), if_neg (by omega), if_neg (by omega), if_neg (by omega), if_neg (by omega), if_neg (by omega)]
    · rw [L_X8_undo_92.eq_2, if_neg (by show ¬ nI 6 ≤ nI j; rw [zv_nIle (by omega) (by omega)]; omega), if_pos (zv_gd hj), if_pos (zv_gd hj), if_pos (zv_gd hj), if_pos (zv_gd hj), if_pos (zv_gd hj), if_pos (zv_gd hj), if_pos (zv_gd hj), if_pos (zv_gd hj), zv_nIcl (by omega), zv_nIs j (by omega)]
      simp only [gI_sI, zv_gI_f, zv_gI_i, gI_sI, zv_gJ_f, zv_gIc_f, zv_gIc_i, zv_kJ_sI, zv_kR_sI, zv_kI_sJ, zv_kR_sJ, zv_kI_sR, zv_kJ_sR, zv_kJ_cI, zv_kR_cI, zv_kI_cJ, zv_kR_cJ, ne_eq, Nat.reduceEqDiff, Nat.reduceMul, Nat.reduceAdd, not_false_eq_true, not_true_eq_false, false_and, and_false, and_true, true_and, and_self, reduceIte, Nat.one_ne_zero, Nat.zero_ne_one, Nat.zero_add, Nat.mul_zero]
  · intro n S _
    rw [L_X8_undo_92.eq_2, if_pos (by show nI 6 ≤ nI 6; rw [zv_nIle (by omega) (by omega)]; omega)]
theorem zv_cp_undo_154 (zv_S0 : St) (K : Int32 → St → Option (Int32 × St)) : ∃ T, ((∀ f i r, gI T f i r = if f = 26 ∧ i = 0 ∧ r < 24 then gI zv_S0 46 0 r else gI zv_S0 f i r) ∧ gJ T = gJ zv_S0 ∧ gR T = gR zv_S0) ∧ L_X8_undo_154 K 1000 (nI 0) zv_S0 = K (nI 24) T := by
  refine zv_lpI (L_X8_undo_154 K) K 24 (fun j T => (∀ f i r, gI T f i r = if f = 26 ∧ i = 0 ∧ r < j then gI zv_S0 46 0 r else gI zv_S0 f i r) ∧ gJ T = gJ zv_S0 ∧ gR T = gR zv_S0) ?_ ?_ 24 0 1000 zv_S0 rfl (by decide) ⟨fun f i r => by rw [if_neg (by omega)], rfl, rfl⟩
  · intro n j S hj ⟨h1, h2, h3⟩
    have v46 : gI S 46 0 j = gI zv_S0 46 0 j := by rw [h1, if_neg (by omega)]
    refine ⟨sI (S) 26 0 j (gI S 46 0 j), ⟨fun f i r => ?_, h2, h3⟩, ?_⟩
    · rw [gI_sI]
      by_cases c26 : f = 26 ∧ i = 0
      · obtain ⟨rfl, rfl⟩ := c26
        simp only [v46, zv_gI_f, zv_gI_i, gI_sI, zv_gJ_f, zv_gIc_f, zv_gIc_i, zv_kJ_sI, zv_kR_sI, zv_kI_sJ, zv_kR_sJ, zv_kI_sR, zv_kJ_sR, zv_kJ_cI, zv_kR_cI, zv_kI_cJ, zv_kR_cJ, ne_eq, Nat.reduceEqDiff, Nat.reduceMul, Nat.reduceAdd, not_false_eq_true, not_true_eq_false, false_and, and_false, and_true, true_and, and_self, reduceIte, Nat.one_ne_zero, Nat.zero_ne_one, Nat.zero_add, Nat.mul_zero]
        by_cases hr : r = j
        · rw [if_pos hr, if_pos (by omega), hr]
        · rw [if_neg hr, h1]
          simp only [zv_gI_f, zv_gI_i, gI_sI, zv_gJ_f, zv_gIc_f, zv_gIc_i, zv_kJ_sI, zv_kR_sI, zv_kI_sJ, zv_kR_sJ, zv_kI_sR, zv_kJ_sR, zv_kJ_cI, zv_kR_cI, zv_kI_cJ, zv_kR_cJ, ne_eq, Nat.reduceEqDiff, Nat.reduceMul, Nat.reduceAdd, not_false_eq_true, not_true_eq_false, false_and, and_false, and_true, true_and, and_self, reduceIte, Nat.one_ne_zero, Nat.zero_ne_one, Nat.zero_add, Nat.mul_zero]
          by_cases hr2 : r < j
          · rw [if_pos hr2, if_pos (by omega)]
          · rw [if_neg hr2, if_neg (by omega)]
      rw [if_neg (by omega), h1, if_neg (by omega), if_neg (by omega)]
    · rw [L_X8_undo_154.eq_2, if_neg (by show ¬ nI 24 ≤ nI j; rw [zv_nIle (by omega) (by omega)]; omega), if_pos (zv_gd hj), if_pos (zv_gd hj), zv_nIcl (by omega), zv_nIs j (by omega)]
  · intro n S _
    rw [L_X8_undo_154.eq_2, if_pos (by show nI 24 ≤ nI 24; rw [zv_nIle (by omega) (by omega)]; omega)]
theorem zv_cp_undo_180 (zv_S0 : St) (K : Int32 → St → Option (Int32 × St)) : ∃ T, ((∀ f i r, gI T f i r = if f = 37 ∧ i = 0 ∧ r < 4 then gI zv_S0 47 0 r else if f = 38 ∧ i = 0 ∧ r < 4 then gI zv_S0 48 0 r else gI zv_S0 f i r) ∧ gJ T = gJ zv_S0 ∧ gR T = gR zv_S0) ∧ L_X8_undo_180 K 1000 (nI 0) zv_S0 = K (nI 4) T := by
  refine zv_lpI (L_X8_undo_180 K) K 4 (fun j T => (∀ f i r, gI T f i r = if f = 37 ∧ i = 0 ∧ r < j then gI zv_S0 47 0 r else if f = 38 ∧ i = 0 ∧ r < j then gI zv_S0 48 0 r else gI zv_S0 f i r) ∧ gJ T = gJ zv_S0 ∧ gR T = gR zv_S0) ?_ ?_ 4 0 1000 zv_S0 rfl (by decide) ⟨fun f i r => by rw [if_neg (by omega), if_neg (by omega)], rfl, rfl⟩
  · intro n j S hj ⟨h1, h2, h3⟩
    have v47 : gI S 47 0 j = gI zv_S0 47 0 j := by rw [h1, if_neg (by omega), if_neg (by omega)]
    have v48 : gI S 48 0 j = gI zv_S0 48 0 j := by rw [h1, if_neg (by omega), if_neg (by omega)]
    refine ⟨sI (sI (S) 37 0 j (gI S 47 0 j)) 38 0 j (gI S 48 0 j), ⟨fun f i r => ?_, h2, h3⟩, ?_⟩
    · rw [gI_sI, gI_sI]
      by_cases c37 : f = 37 ∧ i = 0
      · obtain ⟨rfl, rfl⟩ := c37
        simp only [v47, zv_gI_f, zv_gI_i, gI_sI, zv_gJ_f, zv_gIc_f, zv_gIc_i, zv_kJ_sI, zv_kR_sI, zv_kI_sJ, zv_kR_sJ, zv_kI_sR, zv_kJ_sR, zv_kJ_cI, zv_kR_cI, zv_kI_cJ, zv_kR_cJ, ne_eq, Nat.reduceEqDiff, Nat.reduceMul, Nat.reduceAdd, not_false_eq_true, not_true_eq_false, false_and, and_false, and_true, true_and, and_self, reduceIte, Nat.one_ne_zero, Nat.zero_ne_one, Nat.zero_add, Nat.mul_zero]
        by_cases hr : r = j
        · rw [if_pos hr, if_pos (by omega), hr]
        · rw [if_neg hr, h1]
          simp only [zv_gI_f, zv_gI_i, gI_sI, zv_gJ_f, zv_gIc_f, zv_gIc_i, zv_kJ_sI, zv_kR_sI, zv_kI_sJ, zv_kR_sJ, zv_kI_sR, zv_kJ_sR, zv_kJ_cI, zv_kR_cI, zv_kI_cJ, zv_kR_cJ, ne_eq, Nat.reduceEqDiff, Nat.reduceMul, Nat.reduceAdd, not_false_eq_true, not_true_eq_false, false_and, and_false, and_true, true_and, and_self, reduceIte, Nat.one_ne_zero, Nat.zero_ne_one, Nat.zero_add, Nat.mul_zero]
          by_cases hr2 : r < j
          · rw [if_pos hr2, if_pos (by omega)]
          · rw [if_neg hr2, if_neg (by omega)]
      by_cases c38 : f = 38 ∧ i = 0
      · obtain ⟨rfl, rfl⟩ := c38
        simp only [v48, zv_gI_f, zv_gI_i, gI_sI, zv_gJ_f, zv_gIc_f, zv_gIc_i, zv_kJ_sI, zv_kR_sI, zv_kI_sJ, zv_kR_sJ, zv_kI_sR, zv_kJ_sR, zv_kJ_cI, zv_kR_cI, zv_kI_cJ, zv_kR_cJ, ne_eq, Nat.reduceEqDiff, Nat.reduceMul, Nat.reduceAdd, not_false_eq_true, not_true_eq_false, false_and, and_false, and_true, true_and, and_self, reduceIte, Nat.one_ne_zero, Nat.zero_ne_one, Nat.zero_add, Nat.mul_zero]
        by_cases hr : r = j
        · rw [if_pos hr, if_pos (by omega), hr]
        · rw [if_neg hr, h1]
          simp only [zv_gI_f, zv_gI_i, gI_sI, zv_gJ_f, zv_gIc_f, zv_gIc_i, zv_kJ_sI, zv_kR_sI, zv_kI_sJ, zv_kR_sJ, zv_kI_sR, zv_kJ_sR, zv_kJ_cI, zv_kR_cI, zv_kI_cJ, zv_kR_cJ, ne_eq, Nat.reduceEqDiff, Nat.reduceMul, Nat.reduceAdd, not_false_eq_true, not_true_eq_false, false_and, and_false, and_true, true_and, and_self, reduceIte, Nat.one_ne_zero, Nat.zero_ne_one, Nat.zero_add, Nat.mul_zero]
          by_cases hr2 : r < j
          · rw [if_pos hr2, if_pos (by omega)]
          · rw [if_neg hr2, if_neg (by omega)]
      rw [if_neg (by omega), if_neg (by omega), h1, if_neg (by omega), if_neg (by omega), if_neg (by omega), if_neg (by omega)]
    · rw [L_X8_undo_180.eq_2, if_neg (by show ¬ nI 4 ≤ nI j; rw [zv_nIle (by omega) (by omega)]; omega), if_pos (zv_gd hj), if_pos (zv_gd hj), if_pos (zv_gd hj), if_pos (zv_gd hj), zv_nIcl (by omega), zv_nIs j (by omega)]
      simp only [gI_sI, zv_gI_f, zv_gI_i, gI_sI, zv_gJ_f, zv_gIc_f, zv_gIc_i, zv_kJ_sI, zv_kR_sI, zv_kI_sJ, zv_kR_sJ, zv_kI_sR, zv_kJ_sR, zv_kJ_cI, zv_kR_cI, zv_kI_cJ, zv_kR_cJ, ne_eq, Nat.reduceEqDiff, Nat.reduceMul, Nat.reduceAdd, not_false_eq_true, not_true_eq_false, false_and, and_false, and_true, true_and, and_self, reduceIte, Nat.one_ne_zero, Nat.zero_ne_one, Nat.zero_add, Nat.mul_zero]
  · intro n S _
    rw [L_X8_undo_180.eq_2, if_pos (by show nI 4 ≤ nI 4; rw [zv_nIle (by omega) (by omega)]; omega)]
theorem zv_cp_undo_217 (zv_S0 : St) (K : Int32 → St → Option (Int32 × St)) : ∃ T, ((∀ f i r, gI T f i r = if f = 39 ∧ i = 0 ∧ r < 5 then gI zv_S0 49 0 r else gI zv_S0 f i r) ∧ gJ T = gJ zv_S0 ∧ gR T = gR zv_S0) ∧ L_X8_undo_217 K 1000 (nI 0) zv_S0 = K (nI 5) T := by
  refine zv_lpI (L_X8_undo_217 K) K 5 (fun j T => (∀ f i r, gI T f i r = if f = 39 ∧ i = 0 ∧ r < j then gI zv_S0 49 0 r else gI zv_S0 f i r) ∧ gJ T = gJ zv_S0 ∧ gR T = gR zv_S0) ?_ ?_ 5 0 1000 zv_S0 rfl (by decide) ⟨fun f i r => by rw [if_neg (by omega)], rfl, rfl⟩
  · intro n j S hj ⟨h1, h2, h3⟩
    have v49 : gI S 49 0 j = gI zv_S0 49 0 j := by rw [h1, if_neg (by omega)]
    refine ⟨sI (S) 39 0 j (gI S 49 0 j), ⟨fun f i r => ?_, h2, h3⟩, ?_⟩
    · rw [gI_sI]
      by_cases c39 : f = 39 ∧ i = 0
      · obtain ⟨rfl, rfl⟩ := c39
        simp only [v49, zv_gI_f, zv_gI_i, gI_sI, zv_gJ_f, zv_gIc_f, zv_gIc_i, zv_kJ_sI, zv_kR_sI, zv_kI_sJ, zv_kR_sJ, zv_kI_sR, zv_kJ_sR, zv_kJ_cI, zv_kR_cI, zv_kI_cJ, zv_kR_cJ, ne_eq, Nat.reduceEqDiff, Nat.reduceMul, Nat.reduceAdd, not_false_eq_true, not_true_eq_false, false_and, and_false, and_true, true_and, and_self, reduceIte, Nat.one_ne_zero, Nat.zero_ne_one, Nat.zero_add, Nat.mul_zero]
        by_cases hr : r = j
        · rw [if_pos hr, if_pos (by omega), hr]
        · rw [if_neg hr, h1]
          simp only [zv_gI_f, zv_gI_i, gI_sI, zv_gJ_f, zv_gIc_f, zv_gIc_i, zv_kJ_sI, zv_kR_sI, zv_kI_sJ, zv_kR_sJ, zv_kI_sR, zv_kJ_sR, zv_kJ_cI, zv_kR_cI, zv_kI_cJ, zv_kR_cJ, ne_eq, Nat.reduceEqDiff, Nat.reduceMul, Nat.reduceAdd, not_false_eq_true, not_true_eq_false, false_and, and_false, and_true, true_and, and_self, reduceIte, Nat.one_ne_zero, Nat.zero_ne_one, Nat.zero_add, Nat.mul_zero]
          by_cases hr2 : r < j
          · rw [if_pos hr2, if_pos (by omega)]
          · rw [if_neg hr2, if_neg (by omega)]
      rw [if_neg (by omega), h1, if_neg (by omega), if_neg (by omega)]
    · rw [L_X8_undo_217.eq_2, if_neg (by show ¬ nI 5 ≤ nI j; rw [zv_nIle (by omega) (by omega)]; omega), if_pos (zv_gd hj), if_pos (zv_gd hj), zv_nIcl (by omega), zv_nIs j (by omega)]
  · intro n S _
    rw [L_X8_undo_217.eq_2, if_pos (by show nI 5 ≤ nI 5; rw [zv_nIle (by omega) (by omega)]; omega)]
theorem zv_cp_undo_242 (zv_S0 : St) (K : Int32 → St → Option (Int32 × St)) : ∃ T, ((∀ f i r, gI T f i r = if f = 40 ∧ i = 0 ∧ r < 8 then gI zv_S0 50 0 r else if f = 41 ∧ i = 0 ∧ r < 8 then gI zv_S0 51 0 r else gI zv_S0 f i r) ∧ gJ T = gJ zv_S0 ∧ gR T = gR zv_S0) ∧ L_X8_undo_242 K 1000 (nI 0) zv_S0 = K (nI 8) T := by
  refine zv_lpI (L_X8_undo_242 K) K 8 (fun j T => (∀ f i r, gI T f i r = if f = 40 ∧ i = 0 ∧ r < j then gI zv_S0 50 0 r else if f = 41 ∧ i = 0 ∧ r < j then gI zv_S0 51 0 r else gI zv_S0 f i r) ∧ gJ T = gJ zv_S0 ∧ gR T = gR zv_S0) ?_ ?_ 8 0 1000 zv_S0 rfl (by decide) ⟨fun f i r => by rw [if_neg (by omega), if_neg (by omega)], rfl, rfl⟩
  · intro n j S hj ⟨h1, h2, h3⟩
    have v50 : gI S 50 0 j = gI zv_S0 50 0 j := by rw [h1, if_neg (by omega), if_neg (by omega)]
    have v51 : gI S 51 0 j = gI zv_S0 51 0 j := by rw [h1, if_neg (by omega), if_neg (by omega)]
    refine ⟨sI (sI (S) 40 0 j (gI S 50 0 j)) 41 0 j (gI S 51 0 j), ⟨fun f i r => ?_, h2, h3⟩, ?_⟩
    · rw [gI_sI, gI_sI]
      by_cases c40 : f = 40 ∧ i = 0
      · obtain ⟨rfl, rfl⟩ := c40
        simp only [v50, zv_gI_f, zv_gI_i, gI_sI, zv_gJ_f, zv_gIc_f, zv_gIc_i, zv_kJ_sI, zv_kR_sI, zv_kI_sJ, zv_kR_sJ, zv_kI_sR, zv_kJ_sR, zv_kJ_cI, zv_kR_cI, zv_kI_cJ, zv_kR_cJ, ne_eq, Nat.reduceEqDiff, Nat.reduceMul, Nat.reduceAdd, not_false_eq_true, not_true_eq_false, false_and, and_false, and_true, true_and, and_self, reduceIte, Nat.one_ne_zero, Nat.zero_ne_one, Nat.zero_add, Nat.mul_zero]
        by_cases hr : r = j
        · rw [if_pos hr, if_pos (by omega), hr]
        · rw [if_neg hr, h1]
          simp only [zv_gI_f, zv_gI_i, gI_sI, zv_gJ_f, zv_gIc_f, zv_gIc_i, zv_kJ_sI, zv_kR_sI, zv_kI_sJ, zv_kR_sJ, zv_kI_sR, zv_kJ_sR, zv_kJ_cI, zv_kR_cI, zv_kI_cJ, zv_kR_cJ, ne_eq, Nat.reduceEqDiff, Nat.reduceMul, Nat.reduceAdd, not_false_eq_true, not_true_eq_false, false_and, and_false, and_true, true_and, and_self, reduceIte, Nat.one_ne_zero, Nat.zero_ne_one, Nat.zero_add, Nat.mul_zero]
          by_cases hr2 : r < j
          · rw [if_pos hr2, if_pos (by omega)]
          · rw [if_neg hr2, if_neg (by omega)]
      by_cases c41 : f = 41 ∧ i = 0
      · obtain ⟨rfl, rfl⟩ := c41
        simp only [v51, zv_gI_f, zv_gI_i, gI_sI, zv_gJ_f, zv_gIc_f, zv_gIc_i, zv_kJ_sI, zv_kR_sI, zv_kI_sJ, zv_kR_sJ, zv_kI_sR, zv_kJ_sR, zv_kJ_cI, zv_kR_cI, zv_kI_cJ, zv_kR_cJ, ne_eq, Nat.reduceEqDiff, Nat.reduceMul, Nat.reduceAdd, not_false_eq_true, not_true_eq_false, false_and, and_false, and_true, true_and, and_self, reduceIte, Nat.one_ne_zero, Nat.zero_ne_one, Nat.zero_add, Nat.mul_zero]
        by_cases hr : r = j
        · rw [if_pos hr, if_pos (by omega), hr]
        · rw [if_neg hr, h1]
          simp only [zv_gI_f, zv_gI_i, gI_sI, zv_gJ_f, zv_gIc_f, zv_gIc_i, zv_kJ_sI, zv_kR_sI, zv_kI_sJ, zv_kR_sJ, zv_kI_sR, zv_kJ_sR, zv_kJ_cI, zv_kR_cI, zv_kI_cJ, zv_kR_cJ, ne_eq, Nat.reduceEqDiff, Nat.reduceMul, Nat.reduceAdd, not_false_eq_true, not_true_eq_false, false_and, and_false, and_true, true_and, and_self, reduceIte, Nat.one_ne_zero, Nat.zero_ne_one, Nat.zero_add, Nat.mul_zero]
          by_cases hr2 : r < j
          · rw [if_pos hr2, if_pos (by omega)]
          · rw [if_neg hr2, if_neg (by omega)]
      rw [if_neg (by omega), if_neg (by omega), h1, if_neg (by omega), if_neg (by omega), if_neg (by omega), if_neg (by omega)]
    · rw [L_X8_undo_242.eq_2, if_neg (by show ¬ nI 8 ≤ nI j; rw [zv_nIle (by omega) (by omega)]; omega), if_pos (zv_gd hj), if_pos (zv_gd hj), if_pos (zv_gd hj), if_pos (zv_gd hj), zv_nIcl (by omega), zv_nIs j (by omega)]
      simp only [gI_sI, zv_gI_f, zv_gI_i, gI_sI, zv_gJ_f, zv_gIc_f, zv_gIc_i, zv_kJ_sI, zv_kR_sI, zv_kI_sJ, zv_kR_sJ, zv_kI_sR, zv_kJ_sR, zv_kJ_cI, zv_kR_cI, zv_kI_cJ, zv_kR_cJ, ne_eq, Nat.reduceEqDiff, Nat.reduceMul, Nat.reduceAdd, not_false_eq_true, not_true_eq_false, false_and, and_false, and_true, true_and, and_self, reduceIte, Nat.one_ne_zero, Nat.zero_ne_one, Nat.zero_add, Nat.mul_zero]
  · intro n S _
    rw [L_X8_undo_242.eq_2, if_pos (by show nI 8 ≤ nI 8; rw [zv_nIle (by omega) (by omega)]; omega)]
theorem zv_SVn {mx : Nat} {lo hi x m : Int32} {X M : Nat → Int32} (h : zv_SV mx lo hi x m X M) : ∃ n, n ≤ mx ∧ x = nI n := by
  obtain ⟨n, h1, h2, _⟩ := h; exact ⟨n, h1, h2⟩
theorem zv_SV_cg {mx n : Nat} {lo hi x m x' m' : Int32} {X M X' M' : Nat → Int32} (h : zv_SV mx lo hi x m X M) (hx : x = nI n) (hm : mx ≤ 100) (hn : n ≤ mx) (e1 : x' = nI n) (e2 : m' = m) (e3 : ∀ r, r < n → X' r = X r) (e4 : ∀ r, r < mx → M' r = M r) : zv_SV mx lo hi x' m' X' M' := by
  obtain ⟨n', h1, h2, h3, h4⟩ := h
  have : n = n' := by rw [hx] at h2; exact (zv_nIeq (by omega) (by omega)).mp h2
  subst this
  refine ⟨n, h1, e1, e2.trans h3, fun r hr => ?_⟩
  rw [e3 r hr, e4 r (by omega)]; exact h4 r hr
theorem zv_SX_cg {mx n c : Nat} {x x' : Int32} {X M X' M' : Nat → Int32} (h : zv_SX mx c x X M) (hx : x = nI n) (hm : mx ≤ 100) (hn : n ≤ mx) (e1 : x' = nI n) (e3 : ∀ r, r < n → X' r = X r) (e4 : ∀ r, r < mx → M' r = M r) : zv_SX mx c x' X' M' := by
  obtain ⟨n', h1, h2, h4⟩ := h
  have : n = n' := by rw [hx] at h2; exact (zv_nIeq (by omega) (by omega)).mp h2
  subst this
  refine ⟨n, h1, e1, fun r hr => ?_⟩
  rw [e3 r hr, e4 r (by omega)]; exact h4 r hr
theorem zv_SR_cp {q i a : Nat} (hia : (i = 0 ∧ a = 1) ∨ (i = 1 ∧ a = 0)) {Sx : St} {lf mi ml hi is hm the lg sn bk : Int32} {kd v wh pl rw lw ln sm bw bc kd' v' wh' pl' rw' lw' ln' sm' bw' bc' : Nat → Int32} {cs : Nat → List zv_Cl}
    (h : zv_SR q a Sx lf mi ml hi is hm the lg sn bk kd v wh pl rw lw ln sm bw bc)
    (e1 : ∀ r, r < 6 → kd' r = kd r ∧ v' r = v r ∧ wh' r = wh r ∧ pl' r = pl r) (e2 : ∀ r, r < 24 → rw' r = rw r) (e3 : ∀ r, r < 4 → lw' r = lw r) (e4 : ∀ r, r < 4 → ln' r = ln r) (e5 : ∀ r, r < 5 → sm' r = sm r) (e6 : ∀ r, r < 8 → bw' r = bw r) (e7 : ∀ r, r < 8 → bc' r = bc r)
    (hN : zv_RN (gI Sx 3)) (hC : zv_RC q cs (gI Sx 3) (gR Sx 3)) :
    ∃ S', F_X5_copyFrom Sx i a = some ((), S') ∧ zv_SR q i S' lf mi ml hi is hm the lg sn bk kd' v' wh' pl' rw' lw' ln' sm' bw' bc' ∧ zv_SR q a S' lf mi ml hi is hm the lg sn bk kd v wh pl rw lw ln sm bw bc ∧ zv_RN (gI S' 3) ∧ zv_RC q cs (gI S' 3) (gR S' 3) ∧
      (∀ f, f = 0 ∨ f = 1 ∨ f = 6 ∨ f = 7 ∨ f = 10 ∨ f = 16 ∨ f = 17 → gI S' f = gI Sx f) ∧ gJ S' = gJ Sx ∧ (∀ f, f = 9 → gR S' f = gR Sx f) ∧ gI S' 5 i 5 = lf := by
  obtain ⟨c, u1, u2, u3, u4, u5, ⟨p, p1, p2, p3⟩, u7, u8, u9, u10, u11⟩ := h
  obtain ⟨n1, a1, b1⟩ := zv_SVn u7
  obtain ⟨n2, a2, b2⟩ := zv_SVn u9
  obtain ⟨n3, a3, b3⟩ := zv_SVn u10
  have hc := u1.1
  obtain ⟨S', g1, g2, g3, g4⟩ := zv_x5_copy hia u1.1 Sx u1.2.1 a1 a2 a3 b1 b2 b3 p2
  have fr : ∀ f, f = 0 ∨ f = 1 ∨ f = 6 ∨ f = 7 ∨ f = 10 ∨ f = 16 ∨ f = 17 → gI S' f = gI Sx f := by
    intro f hf
    funext b r
    rw [g4]
    iterate 15 rw [if_neg (by omega)]
  have fa : ∀ f b r, (f = 5 ∧ b = a) ∨ (f = 2 ∧ b = a) ∨ ((f = 4 ∨ f = 14 ∨ f = 15) ∧ (b = 3 * a ∨ b = 3 * a + 1 ∨ b = 3 * a + 2)) ∨ ((f = 3 ∨ f = 13) ∧ 6 * a ≤ b ∧ b < 6 * a + 6) → gI S' f b r = gI Sx f b r := by
    intro f b r hf
    rw [g4]
    iterate 15 rw [if_neg (by omega)]
  refine ⟨S', g1, ?_, ?_, ?_, ?_, fr, g2, ?_, ?_⟩
  · refine ⟨c, ⟨u1.1, ?_, u1.2.2⟩, ?_, ?_, ?_, ?_, ⟨p, p1, ?_, p3⟩, ?_, ?_, ?_, ?_, ?_⟩
    · rw [g4, if_pos ⟨rfl, rfl, rfl⟩]
    · intro j hj
      have := u2 j hj
      have e3' : ∀ r, 2 ≤ r → r ≤ 5 → gI S' 3 (6 * i + j) r = gI Sx 3 (6 * a + j) r := by
        intro r h1 h2
        rw [g4]
        iterate 13 rw [if_neg (by omega)]
        rw [if_pos (by omega), show 6 * i + j - 6 * i = j by omega]
      have e13 : ∀ r, r < 4 → gI S' 13 (6 * i + j) r = gI Sx 13 (6 * a + j) r := by
        intro r h1
        rw [g4]
        iterate 14 rw [if_neg (by omega)]
        rw [if_pos (by omega), show 6 * i + j - 6 * i = j by omega]
      obtain ⟨o1, o2, o3, o4⟩ := e1 j (by omega)
      rw [e3' 2 (by omega) (by omega), e3' 3 (by omega) (by omega), e3' 4 (by omega) (by omega), e3' 5 (by omega) (by omega), o1, o2, o3, o4]
      refine ⟨this.1, this.2.1, this.2.2.1, this.2.2.2.1, this.2.2.2.2.1, this.2.2.2.2.2.1, this.2.2.2.2.2.2.1, this.2.2.2.2.2.2.2.1, this.2.2.2.2.2.2.2.2.1, this.2.2.2.2.2.2.2.2.2.1, this.2.2.2.2.2.2.2.2.2.2.1, this.2.2.2.2.2.2.2.2.2.2.2.1, fun z hz => ?_⟩
      rw [e13 z hz, e2 (4 * j + z) (by omega)]
      exact this.2.2.2.2.2.2.2.2.2.2.2.2 z hz
    · have e2' : ∀ r, r < 3 → gI S' 2 i r = gI Sx 2 a r := by
        intro r h1
        rw [g4]
        iterate 3 rw [if_neg (by omega)]
        rw [if_pos (by omega)]
      unfold zv_SG
      rw [e2' 0 (by omega), e2' 1 (by omega), e2' 2 (by omega)]
      exact u3
    · rw [g4, if_neg (by omega), if_pos ⟨rfl, rfl, rfl⟩]; exact u4
    · rw [g4, if_neg (by omega), if_neg (by omega), if_pos ⟨rfl, rfl, rfl⟩]; exact u5
    · rw [g3, if_pos ⟨rfl, rfl, rfl⟩]
    · refine zv_SV_cg u7 b1 (by decide) a1 ?_ rfl (fun r hr => ?_) e4
      · rw [g4]
        iterate 4 rw [if_neg (by omega)]
        rw [if_pos ⟨rfl, rfl, rfl⟩]
      · rw [g4]
        iterate 10 rw [if_neg (by omega)]
        rw [if_pos ⟨rfl, rfl, hr⟩]
    · refine zv_SX_cg u8 b1 (by decide) a1 ?_ (fun r hr => ?_) e3
      · rw [g4]
        iterate 4 rw [if_neg (by omega)]
        rw [if_pos ⟨rfl, rfl, rfl⟩]
      · rw [g4]
        iterate 7 rw [if_neg (by omega)]
        rw [if_pos ⟨rfl, rfl, hr⟩]
    · refine zv_SV_cg u9 b2 (by decide) a2 ?_ rfl (fun r hr => ?_) e5
      · rw [g4]
        iterate 5 rw [if_neg (by omega)]
        rw [if_pos ⟨rfl, rfl, rfl⟩]
      · rw [g4]
        iterate 11 rw [if_neg (by omega)]
        rw [if_pos ⟨rfl, rfl, hr⟩]
    · refine zv_SV_cg u10 b3 (by decide) a3 ?_ rfl (fun r hr => ?_) e7
      · rw [g4]
        iterate 6 rw [if_neg (by omega)]
        rw [if_pos ⟨rfl, rfl, rfl⟩]
      · rw [g4]
        iterate 12 rw [if_neg (by omega)]
        rw [if_pos ⟨rfl, rfl, hr⟩]
    · refine zv_SX_cg u11 b3 (by decide) a3 ?_ (fun r hr => ?_) e6
      · rw [g4]
        iterate 6 rw [if_neg (by omega)]
        rw [if_pos ⟨rfl, rfl, rfl⟩]
      · rw [g4]
        iterate 9 rw [if_neg (by omega)]
        rw [if_pos ⟨rfl, rfl, hr⟩]
  · have ff : ∀ f b, (f = 5 ∧ b = a) ∨ (f = 2 ∧ b = a) ∨ ((f = 4 ∨ f = 14 ∨ f = 15) ∧ (b = 3 * a ∨ b = 3 * a + 1 ∨ b = 3 * a + 2)) ∨ ((f = 3 ∨ f = 13) ∧ 6 * a ≤ b ∧ b < 6 * a + 6) → gI S' f b = gI Sx f b := fun f b hf => funext fun r => fa f b r hf
    refine ⟨c, ⟨u1.1, (fa 5 a 5 (by omega)).trans u1.2.1, u1.2.2⟩, ?_, ?_, ?_, ?_, ⟨p, p1, ?_, p3⟩, ?_, ?_, ?_, ?_, ?_⟩
    · intro j hj
      rw [ff 3 (6 * a + j) (by omega), ff 13 (6 * a + j) (by omega)]
      exact u2 j hj
    · rw [ff 2 a (by omega)]; exact u3
    · rw [ff 5 a (by omega)]; exact u4
    · rw [ff 5 a (by omega)]; exact u5
    · rw [g3, if_neg (by omega), if_neg (by omega)]; exact p2
    · rw [ff 4 (3 * a) (by omega), ff 15 (3 * a) (by omega)]; exact u7
    · rw [ff 4 (3 * a) (by omega), ff 14 (3 * a) (by omega)]; exact u8
    · rw [ff 4 (3 * a + 1) (by omega), ff 15 (3 * a + 1) (by omega)]; exact u9
    · rw [ff 4 (3 * a + 2) (by omega), ff 15 (3 * a + 2) (by omega)]; exact u10
    · rw [ff 4 (3 * a + 2) (by omega), ff 14 (3 * a + 2) (by omega)]; exact u11
  · intro b hb
    rw [g4]
    iterate 15 rw [if_neg (by omega)]
    exact hN b hb
  · intro b hb x hx
    rw [g3, if_neg (by omega)] at hx
    by_cases hq : 6 * i ≤ b ∧ b < 6 * i + c
    · rw [if_pos (by omega)] at hx; cases hx
    · rw [if_neg (by omega)] at hx
      have e : gI S' 3 b = gI Sx 3 b := by
        funext r
        rw [g4]
        iterate 15 rw [if_neg (by omega)]
      rw [e]
      exact hC b hb x hx
  · intro f hf
    funext b r
    rw [g3, if_neg (by omega), if_neg (by omega)]
  · rw [g4, if_pos ⟨rfl, rfl, rfl⟩, u1.2.2]
theorem zv_cpA_image (M0 : St) : ∃ T, L_X8_image_87 
  (fun y1_1 T_1 => L_X8_image_149 
  (fun y1_2 T_2 => L_X8_image_175 
  (fun y1_3 T_3 => L_X8_image_212 
  (fun y1_4 T_4 => L_X8_image_237 
  (fun y1_5 T_5 => some (gI T_5 8 0 0, T_5)) 1000 (0 : Int32) T_4) 1000 (0 : Int32) T_3) 1000 (0 : Int32) T_2) 1000 (0 : Int32) T_1) 1000 (0 : Int32) M0 = some (gI T 8 0 0, T) ∧ gJ T = gJ M0 ∧ (∀ f, f ≠ 42 → f ≠ 43 → f ≠ 44 → f ≠ 45 → f ≠ 46 → f ≠ 47 → f ≠ 48 → f ≠ 49 → f ≠ 50 → f ≠ 51 → gI T f = gI M0 f) ∧ (∀ r, r < 6 → gI T 42 0 r = gI M0 22 0 r) ∧ (∀ r, r < 6 → gI T 43 0 r = gI M0 23 0 r) ∧ (∀ r, r < 6 → gI T 44 0 r = gI M0 24 0 r) ∧ (∀ r, r < 6 → gI T 45 0 r = gI M0 25 0 r) ∧ (∀ r, r < 24 → gI T 46 0 r = gI M0 26 0 r) ∧ (∀ r, r < 4 → gI T 47 0 r = gI M0 37 0 r) ∧ (∀ r, r < 4 → gI T 48 0 r = gI M0 38 0 r) ∧ (∀ r, r < 5 → gI T 49 0 r = gI M0 39 0 r) ∧ (∀ r, r < 8 → gI T 50 0 r = gI M0 40 0 r) ∧ (∀ r, r < 8 → gI T 51 0 r = gI M0 41 0 r) := by
  obtain ⟨T0, ⟨a0, b0, zv_c0⟩, e0⟩ := zv_cp_image_87 M0 (fun y1_1 T_1 => L_X8_image_149    (fun y1_2 T_2 => L_X8_image_175    (fun y1_3 T_3 => L_X8_image_212    (fun y1_4 T_4 => L_X8_image_237    (fun y1_5 T_5 => some (gI T_5 8 0 0, T_5)) 1000 (0 : Int32) T_4) 1000 (0 : Int32) T_3) 1000 (0 : Int32) T_2) 1000 (0 : Int32) T_1)
  obtain ⟨T1, ⟨a1, b1, zv_c1⟩, e1⟩ := zv_cp_image_149 T0 (fun y1_2 T_2 => L_X8_image_175    (fun y1_3 T_3 => L_X8_image_212    (fun y1_4 T_4 => L_X8_image_237    (fun y1_5 T_5 => some (gI T_5 8 0 0, T_5)) 1000 (0 : Int32) T_4) 1000 (0 : Int32) T_3) 1000 (0 : Int32) T_2)
  obtain ⟨T2, ⟨a2, b2, c2⟩, e2⟩ := zv_cp_image_175 T1 (fun y1_3 T_3 => L_X8_image_212    (fun y1_4 T_4 => L_X8_image_237    (fun y1_5 T_5 => some (gI T_5 8 0 0, T_5)) 1000 (0 : Int32) T_4) 1000 (0 : Int32) T_3)
  obtain ⟨T3, ⟨a3, b3, c3⟩, e3⟩ := zv_cp_image_212 T2 (fun y1_4 T_4 => L_X8_image_237    (fun y1_5 T_5 => some (gI T_5 8 0 0, T_5)) 1000 (0 : Int32) T_4)
  obtain ⟨T4, ⟨a4, b4, c4⟩, e4⟩ := zv_cp_image_237 T3 (fun y1_5 T_5 => some (gI T_5 8 0 0, T_5))
  rw [show nI 0 = 0 from rfl] at e0 e1 e2 e3 e4
  refine ⟨T4, ?_, ?_, fun f h42 h43 h44 h45 h46 h47 h48 h49 h50 h51 => ?_, fun r hr => ?_, fun r hr => ?_, fun r hr => ?_, fun r hr => ?_, fun r hr => ?_, fun r hr => ?_, fun r hr => ?_, fun r hr => ?_, fun r hr => ?_, fun r hr => ?_⟩
  · rw [e0, e1, e2, e3, e4]
  · rw [b4, b3, b2, b1, b0]
  · funext i r
    rw [a4, if_neg (by omega), if_neg (by omega), a3, if_neg (by omega), a2, if_neg (by omega), if_neg (by omega), a1, if_neg (by omega), a0, if_neg (by omega), if_neg (by omega), if_neg (by omega), if_neg (by omega)]
  · rw [a4, if_neg (by omega), if_neg (by omega), a3, if_neg (by omega), a2, if_neg (by omega), if_neg (by omega), a1, if_neg (by omega), a0, if_pos ⟨rfl, rfl, hr⟩]
  · rw [a4, if_neg (by omega), if_neg (by omega), a3, if_neg (by omega), a2, if_neg (by omega), if_neg (by omega), a1, if_neg (by omega), a0, if_neg (by omega), if_pos ⟨rfl, rfl, hr⟩]
  · rw [a4, if_neg (by omega), if_neg (by omega), a3, if_neg (by omega), a2, if_neg (by omega), if_neg (by omega), a1, if_neg (by omega), a0, if_neg (by omega), if_neg (by omega), if_pos ⟨rfl, rfl, hr⟩]
  · rw [a4, if_neg (by omega), if_neg (by omega), a3, if_neg (by omega), a2, if_neg (by omega), if_neg (by omega), a1, if_neg (by omega), a0, if_neg (by omega), if_neg (by omega), if_neg (by omega), if_pos ⟨rfl, rfl, hr⟩]
  · rw [a4, if_neg (by omega), if_neg (by omega), a3, if_neg (by omega), a2, if_neg (by omega), if_neg (by omega), a1, if_pos ⟨rfl, rfl, hr⟩, a0, if_neg (by omega), if_neg (by omega), if_neg (by omega), if_neg (by omega)]
  · rw [a4, if_neg (by omega), if_neg (by omega), a3, if_neg (by omega), a2, if_pos ⟨rfl, rfl, hr⟩, a1, if_neg (by omega), a0, if_neg (by omega), if_neg (by omega), if_neg (by omega), if_neg (by omega)]
  · rw [a4, if_neg (by omega), if_neg (by omega), a3, if_neg (by omega), a2, if_neg (by omega), if_pos ⟨rfl, rfl, hr⟩, a1, if_neg (by omega), a0, if_neg (by omega), if_neg (by omega), if_neg (by omega), if_neg (by omega)]
  · rw [a4, if_neg (by omega), if_neg (by omega), a3, if_pos ⟨rfl, rfl, hr⟩, a2, if_neg (by omega), if_neg (by omega), a1, if_neg (by omega), a0, if_neg (by omega), if_neg (by omega), if_neg (by omega), if_neg (by omega)]
  · rw [a4, if_pos ⟨rfl, rfl, hr⟩, a3, if_neg (by omega), a2, if_neg (by omega), if_neg (by omega), a1, if_neg (by omega), a0, if_neg (by omega), if_neg (by omega), if_neg (by omega), if_neg (by omega)]
  · rw [a4, if_neg (by omega), if_pos ⟨rfl, rfl, hr⟩, a3, if_neg (by omega), a2, if_neg (by omega), if_neg (by omega), a1, if_neg (by omega), a0, if_neg (by omega), if_neg (by omega), if_neg (by omega), if_neg (by omega)]
theorem zv_cpA_undo (M0 : St) : ∃ T, L_X8_undo_92 
  (fun y1_2 T_2 => L_X8_undo_154 
  (fun y1_3 T_3 => L_X8_undo_180 
  (fun y1_4 T_4 => L_X8_undo_217 
  (fun y1_5 T_5 => L_X8_undo_242 
  (fun y1_6 T_6 => some (gI T_6 8 0 0, T_6)) 1000 (0 : Int32) T_5) 1000 (0 : Int32) T_4) 1000 (0 : Int32) T_3) 1000 (0 : Int32) T_2) 1000 (0 : Int32) M0 = some (gI T 8 0 0, T) ∧ gJ T = gJ M0 ∧ (∀ f, f ≠ 22 → f ≠ 23 → f ≠ 24 → f ≠ 25 → f ≠ 26 → f ≠ 37 → f ≠ 38 → f ≠ 39 → f ≠ 40 → f ≠ 41 → gI T f = gI M0 f) ∧ (∀ r, r < 6 → gI T 22 0 r = gI M0 42 0 r) ∧ (∀ r, r < 6 → gI T 23 0 r = gI M0 43 0 r) ∧ (∀ r, r < 6 → gI T 24 0 r = gI M0 44 0 r) ∧ (∀ r, r < 6 → gI T 25 0 r = gI M0 45 0 r) ∧ (∀ r, r < 24 → gI T 26 0 r = gI M0 46 0 r) ∧ (∀ r, r < 4 → gI T 37 0 r = gI M0 47 0 r) ∧ (∀ r, r < 4 → gI T 38 0 r = gI M0 48 0 r) ∧ (∀ r, r < 5 → gI T 39 0 r = gI M0 49 0 r) ∧ (∀ r, r < 8 → gI T 40 0 r = gI M0 50 0 r) ∧ (∀ r, r < 8 → gI T 41 0 r = gI M0 51 0 r) := by
  obtain ⟨T0, ⟨a0, b0, zv_c0⟩, e0⟩ := zv_cp_undo_92 M0 (fun y1_2 T_2 => L_X8_undo_154    (fun y1_3 T_3 => L_X8_undo_180    (fun y1_4 T_4 => L_X8_undo_217    (fun y1_5 T_5 => L_X8_undo_242    (fun y1_6 T_6 => some (gI T_6 8 0 0, T_6)) 1000 (0 : Int32) T_5) 1000 (0 : Int32) T_4) 1000 (0 : Int32) T_3) 1000 (0 : Int32) T_2)
  obtain ⟨T1, ⟨a1, b1, zv_c1⟩, e1⟩ := zv_cp_undo_154 T0 (fun y1_3 T_3 => L_X8_undo_180    (fun y1_4 T_4 => L_X8_undo_217    (fun y1_5 T_5 => L_X8_undo_242    (fun y1_6 T_6 => some (gI T_6 8 0 0, T_6)) 1000 (0 : Int32) T_5) 1000 (0 : Int32) T_4) 1000 (0 : Int32) T_3)
  obtain ⟨T2, ⟨a2, b2, c2⟩, e2⟩ := zv_cp_undo_180 T1 (fun y1_4 T_4 => L_X8_undo_217    (fun y1_5 T_5 => L_X8_undo_242    (fun y1_6 T_6 => some (gI T_6 8 0 0, T_6)) 1000 (0 : Int32) T_5) 1000 (0 : Int32) T_4)
  obtain ⟨T3, ⟨a3, b3, c3⟩, e3⟩ := zv_cp_undo_217 T2 (fun y1_5 T_5 => L_X8_undo_242    (fun y1_6 T_6 => some (gI T_6 8 0 0, T_6)) 1000 (0 : Int32) T_5)
  obtain ⟨T4, ⟨a4, b4, c4⟩, e4⟩ := zv_cp_undo_242 T3 (fun y1_6 T_6 => some (gI T_6 8 0 0, T_6))
  rw [show nI 0 = 0 from rfl] at e0 e1 e2 e3 e4
  refine ⟨T4, ?_, ?_, fun f h22 h23 h24 h25 h26 h37 h38 h39 h40 h41 => ?_, fun r hr => ?_, fun r hr => ?_, fun r hr => ?_, fun r hr => ?_, fun r hr => ?_, fun r hr => ?_, fun r hr => ?_, fun r hr => ?_, fun r hr => ?_, fun r hr => ?_⟩
  · rw [e0, e1, e2, e3, e4]
  · rw [b4, b3, b2, b1, b0]
  · funext i r
    rw [a4, if_neg (by omega), if_neg (by omega), a3, if_neg (by omega), a2, if_neg (by omega), if_neg (by omega), a1, if_neg (by omega), a0, if_neg (by omega), if_neg (by omega), if_neg (by omega), if_neg (by omega)]
  · rw [a4, if_neg (by omega), if_neg (by omega), a3, if_neg (by omega), a2, if_neg (by omega), if_neg (by omega), a1, if_neg (by omega), a0, if_pos ⟨rfl, rfl, hr⟩]
  · rw [a4, if_neg (by omega), if_neg (by omega), a3, if_neg (by omega), a2, if_neg (by omega), if_neg (by omega), a1, if_neg (by omega), a0, if_neg (by omega), if_pos ⟨rfl, rfl, hr⟩]
  · rw [a4, if_neg (by omega), if_neg (by omega), a3, if_neg (by omega), a2, if_neg (by omega), if_neg (by omega), a1, if_neg (by omega), a0, if_neg (by omega), if_neg (by omega), if_pos ⟨rfl, rfl, hr⟩]
  · rw [a4, if_neg (by omega), if_neg (by omega), a3, if_neg (by omega), a2, if_neg (by omega), if_neg (by omega), a1, if_neg (by omega), a0, if_neg (by omega), if_neg (by omega), if_neg (by omega), if_pos ⟨rfl, rfl, hr⟩]
  · rw [a4, if_neg (by omega), if_neg (by omega), a3, if_neg (by omega), a2, if_neg (by omega), if_neg (by omega), a1, if_pos ⟨rfl, rfl, hr⟩, a0, if_neg (by omega), if_neg (by omega), if_neg (by omega), if_neg (by omega)]
  · rw [a4, if_neg (by omega), if_neg (by omega), a3, if_neg (by omega), a2, if_pos ⟨rfl, rfl, hr⟩, a1, if_neg (by omega), a0, if_neg (by omega), if_neg (by omega), if_neg (by omega), if_neg (by omega)]
  · rw [a4, if_neg (by omega), if_neg (by omega), a3, if_neg (by omega), a2, if_neg (by omega), if_pos ⟨rfl, rfl, hr⟩, a1, if_neg (by omega), a0, if_neg (by omega), if_neg (by omega), if_neg (by omega), if_neg (by omega)]
  · rw [a4, if_neg (by omega), if_neg (by omega), a3, if_pos ⟨rfl, rfl, hr⟩, a2, if_neg (by omega), if_neg (by omega), a1, if_neg (by omega), a0, if_neg (by omega), if_neg (by omega), if_neg (by omega), if_neg (by omega)]
  · rw [a4, if_pos ⟨rfl, rfl, hr⟩, a3, if_neg (by omega), a2, if_neg (by omega), if_neg (by omega), a1, if_neg (by omega), a0, if_neg (by omega), if_neg (by omega), if_neg (by omega), if_neg (by omega)]
  · rw [a4, if_neg (by omega), if_pos ⟨rfl, rfl, hr⟩, a3, if_neg (by omega), a2, if_neg (by omega), if_neg (by omega), a1, if_neg (by omega), a0, if_neg (by omega), if_neg (by omega), if_neg (by omega), if_neg (by omega)]
theorem m_image {k : Nat} {Sx Sm : St} (hR : Rel k Sx Sm) : ∃ (r : Int32) (Sx' Sm' : St), F_X7_image Sx  = some (r, Sx') ∧ F_X8_image Sm  = some (r, Sm') ∧ Rel k Sx' Sm' := by
  obtain ⟨q, cs, w1, w2, w3, w4, w5, w6, w7, zv_w8, w9, w10, w11, w12⟩ := hR
  have w11' := w11
  obtain ⟨c, u1, -⟩ := w11'
  obtain ⟨M, f1, f2, f3, r1, r2, r3, r4, r5, r6, r7, r8, r9, r10⟩ := zv_cpA_image (sI (sI (sI (sI (sI (sI (sI (sI (sI (sI (sI Sm 8 0 44 1) 8 0 45 (gI Sm 8 0 12)) 8 0 46 (gI Sm 8 0 0)) 8 0 47 (gI Sm 8 0 1)) 8 0 48 (gI Sm 8 0 2)) 8 0 49 (gI Sm 8 0 3)) 8 0 50 (gI Sm 8 0 4)) 8 0 51 (gI Sm 8 0 5)) 8 0 52 (gI Sm 8 0 36)) 8 0 53 (gI Sm 8 0 39)) 8 0 54 (gI Sm 8 0 41))
  simp only [gI_sI, zv_gI_f, zv_gI_i, gI_sI, zv_gJ_f, zv_gIc_f, zv_gIc_i, zv_kJ_sI, zv_kR_sI, zv_kI_sJ, zv_kR_sJ, zv_kI_sR, zv_kJ_sR, zv_kJ_cI, zv_kR_cI, zv_kI_cJ, zv_kR_cJ, ne_eq, Nat.reduceEqDiff, Nat.reduceMul, Nat.reduceAdd, not_false_eq_true, not_true_eq_false, false_and, and_false, and_true, true_and, and_self, reduceIte, Nat.one_ne_zero, Nat.zero_ne_one, Nat.zero_add, Nat.mul_zero] at r1 r2 r3 r4 r5 r6 r7 r8 r9 r10
  have f8 := f3 8 (by decide) (by decide) (by decide) (by decide) (by decide) (by decide) (by decide) (by decide) (by decide) (by decide)
  obtain ⟨X, g1, g2, g3, g4, g5, g6, g7, g8, g9⟩ := zv_SR_cp (i := 1) (a := 0) (by omega) (kd' := gI M 42 0) (v' := gI M 43 0) (wh' := gI M 44 0) (pl' := gI M 45 0) (rw' := gI M 46 0) (lw' := gI M 47 0) (ln' := gI M 48 0) (sm' := gI M 49 0) (bw' := gI M 50 0) (bc' := gI M 51 0) (cs := cs) w11 (fun r hr => ⟨r1 r hr, r2 r hr, r3 r hr, r4 r hr⟩) r5 r6 r7 r8 r9 r10 w9 w10
  obtain ⟨c', v1, v2⟩ := g3
  have eM : F_X8_image Sm = some (gI M 8 0 0, M) := by
    unfold F_X8_image
    simp only [gI_sI, zv_gI_f, zv_gI_i, gI_sI, zv_gJ_f, zv_gIc_f, zv_gIc_i, zv_kJ_sI, zv_kR_sI, zv_kI_sJ, zv_kR_sJ, zv_kI_sR, zv_kJ_sR, zv_kJ_cI, zv_kR_cI, zv_kI_cJ, zv_kR_cJ, ne_eq, Nat.reduceEqDiff, Nat.reduceMul, Nat.reduceAdd, not_false_eq_true, not_true_eq_false, false_and, and_false, and_true, true_and, and_self, reduceIte, Nat.one_ne_zero, Nat.zero_ne_one, Nat.zero_add, Nat.mul_zero]
    exact f1
  have eX : F_X7_image Sx = some (gI X 5 0 5, sI X 7 0 10 1) := by
    unfold F_X7_image
    rw [g1]
    simp only [bnd, gI_sI, zv_gI_f, zv_gI_i, gI_sI, zv_gJ_f, zv_gIc_f, zv_gIc_i, zv_kJ_sI, zv_kR_sI, zv_kI_sJ, zv_kR_sJ, zv_kI_sR, zv_kJ_sR, zv_kJ_cI, zv_kR_cI, zv_kI_cJ, zv_kR_cJ, ne_eq, Nat.reduceEqDiff, Nat.reduceMul, Nat.reduceAdd, not_false_eq_true, not_true_eq_false, false_and, and_false, and_true, true_and, and_self, reduceIte, Nat.one_ne_zero, Nat.zero_ne_one, Nat.zero_add, Nat.mul_zero]
  have eR : gI X 5 0 5 = gI M 8 0 0 := by
    rw [v1.2.1, f8]
    simp only [gI_sI, zv_gI_f, zv_gI_i, gI_sI, zv_gJ_f, zv_gIc_f, zv_gIc_i, zv_kJ_sI, zv_kR_sI, zv_kI_sJ, zv_kR_sJ, zv_kI_sR, zv_kJ_sR, zv_kJ_cI, zv_kR_cI, zv_kI_cJ, zv_kR_cJ, ne_eq, Nat.reduceEqDiff, Nat.reduceMul, Nat.reduceAdd, not_false_eq_true, not_true_eq_false, false_and, and_false, and_true, true_and, and_self, reduceIte, Nat.one_ne_zero, Nat.zero_ne_one, Nat.zero_add, Nat.mul_zero]
    exact v1.2.2.symm
  refine ⟨_, _, _, eX, by rw [eR]; exact eM, q, cs, ?_⟩
  have fm : ∀ f, f ≠ 8 → f < 42 ∨ 51 < f → gI M f = gI Sm f := by
    intro f h8 h
    rw [f3 f (by omega) (by omega) (by omega) (by omega) (by omega) (by omega) (by omega) (by omega) (by omega) (by omega)]
    simp only [zv_gI_f h8]
  have fj : gJ M = gJ Sm := f2
  have k7 := g6 7 (by omega)
  have k0 := g6 0 (by omega)
  have k1 := g6 1 (by omega)
  have k6 := g6 6 (by omega)
  have k10 := g6 10 (by omega)
  have k16 := g6 16 (by omega)
  have k17 := g6 17 (by omega)
  have k9 := g8 9 rfl
  refine ⟨?_, ?_, ?_, ?_, ?_, ?_, ?_, ?_, ?_, ?_, ?_, ?_⟩
  · simp only [f8, k7, gI_sI, zv_gI_f, zv_gI_i, gI_sI, zv_gJ_f, zv_gIc_f, zv_gIc_i, zv_kJ_sI, zv_kR_sI, zv_kI_sJ, zv_kR_sJ, zv_kI_sR, zv_kJ_sR, zv_kJ_cI, zv_kR_cI, zv_kI_cJ, zv_kR_cJ, ne_eq, Nat.reduceEqDiff, Nat.reduceMul, Nat.reduceAdd, not_false_eq_true, not_true_eq_false, false_and, and_false, and_true, true_and, and_self, reduceIte, Nat.one_ne_zero, Nat.zero_ne_one, Nat.zero_add, Nat.mul_zero]; exact w1
  · simp only [k9, zv_gI_f, zv_gI_i, gI_sI, zv_gJ_f, zv_gIc_f, zv_gIc_i, zv_kJ_sI, zv_kR_sI, zv_kI_sJ, zv_kR_sJ, zv_kI_sR, zv_kJ_sR, zv_kJ_cI, zv_kR_cI, zv_kI_cJ, zv_kR_cJ, ne_eq, Nat.reduceEqDiff, Nat.reduceMul, Nat.reduceAdd, not_false_eq_true, not_true_eq_false, false_and, and_false, and_true, true_and, and_self, reduceIte, Nat.one_ne_zero, Nat.zero_ne_one, Nat.zero_add, Nat.mul_zero]; exact w2
  · simp only [fm 28 (by decide) (by decide), fm 29 (by decide) (by decide), fm 30 (by decide) (by decide), fm 31 (by decide) (by decide), fm 32 (by decide) (by decide), fm 33 (by decide) (by decide), k0, k16, zv_gI_f, zv_gI_i, gI_sI, zv_gJ_f, zv_gIc_f, zv_gIc_i, zv_kJ_sI, zv_kR_sI, zv_kI_sJ, zv_kR_sJ, zv_kI_sR, zv_kJ_sR, zv_kJ_cI, zv_kR_cI, zv_kI_cJ, zv_kR_cJ, ne_eq, Nat.reduceEqDiff, Nat.reduceMul, Nat.reduceAdd, not_false_eq_true, not_true_eq_false, false_and, and_false, and_true, true_and, and_self, reduceIte, Nat.one_ne_zero, Nat.zero_ne_one, Nat.zero_add, Nat.mul_zero]; exact w3
  · simp only [fm 27 (by decide) (by decide), f8, k1, k17, gI_sI, zv_gI_f, zv_gI_i, gI_sI, zv_gJ_f, zv_gIc_f, zv_gIc_i, zv_kJ_sI, zv_kR_sI, zv_kI_sJ, zv_kR_sJ, zv_kI_sR, zv_kJ_sR, zv_kJ_cI, zv_kR_cI, zv_kI_cJ, zv_kR_cJ, ne_eq, Nat.reduceEqDiff, Nat.reduceMul, Nat.reduceAdd, not_false_eq_true, not_true_eq_false, false_and, and_false, and_true, true_and, and_self, reduceIte, Nat.one_ne_zero, Nat.zero_ne_one, Nat.zero_add, Nat.mul_zero]; exact w4
  · simp only [fm 52 (by decide) (by decide), f8, k7, k10, gI_sI, zv_gI_f, zv_gI_i, gI_sI, zv_gJ_f, zv_gIc_f, zv_gIc_i, zv_kJ_sI, zv_kR_sI, zv_kI_sJ, zv_kR_sJ, zv_kI_sR, zv_kJ_sR, zv_kJ_cI, zv_kR_cI, zv_kI_cJ, zv_kR_cJ, ne_eq, Nat.reduceEqDiff, Nat.reduceMul, Nat.reduceAdd, not_false_eq_true, not_true_eq_false, false_and, and_false, and_true, true_and, and_self, reduceIte, Nat.one_ne_zero, Nat.zero_ne_one, Nat.zero_add, Nat.mul_zero]; exact w5
  · simp only [fm 53 (by decide) (by decide), fm 54 (by decide) (by decide), k6, g7, fj, zv_gI_f, zv_gI_i, gI_sI, zv_gJ_f, zv_gIc_f, zv_gIc_i, zv_kJ_sI, zv_kR_sI, zv_kI_sJ, zv_kR_sJ, zv_kI_sR, zv_kJ_sR, zv_kJ_cI, zv_kR_cI, zv_kI_cJ, zv_kR_cJ, ne_eq, Nat.reduceEqDiff, Nat.reduceMul, Nat.reduceAdd, not_false_eq_true, not_true_eq_false, false_and, and_false, and_true, true_and, and_self, reduceIte, Nat.one_ne_zero, Nat.zero_ne_one, Nat.zero_add, Nat.mul_zero]; exact w6
  · simp only [f8, gI_sI, zv_gI_f, zv_gI_i, gI_sI, zv_gJ_f, zv_gIc_f, zv_gIc_i, zv_kJ_sI, zv_kR_sI, zv_kI_sJ, zv_kR_sJ, zv_kI_sR, zv_kJ_sR, zv_kJ_cI, zv_kR_cI, zv_kI_cJ, zv_kR_cJ, ne_eq, Nat.reduceEqDiff, Nat.reduceMul, Nat.reduceAdd, not_false_eq_true, not_true_eq_false, false_and, and_false, and_true, true_and, and_self, reduceIte, Nat.one_ne_zero, Nat.zero_ne_one, Nat.zero_add, Nat.mul_zero]; exact ⟨rfl, .inr rfl⟩
  · simp only [fm 35 (by decide) (by decide)]; exact zv_w8
  · simp only [zv_gI_f, zv_gI_i, gI_sI, zv_gJ_f, zv_gIc_f, zv_gIc_i, zv_kJ_sI, zv_kR_sI, zv_kI_sJ, zv_kR_sJ, zv_kI_sR, zv_kJ_sR, zv_kJ_cI, zv_kR_cI, zv_kI_cJ, zv_kR_cJ, ne_eq, Nat.reduceEqDiff, Nat.reduceMul, Nat.reduceAdd, not_false_eq_true, not_true_eq_false, false_and, and_false, and_true, true_and, and_self, reduceIte, Nat.one_ne_zero, Nat.zero_ne_one, Nat.zero_add, Nat.mul_zero]; exact g4
  · simp only [zv_gI_f, zv_gI_i, gI_sI, zv_gJ_f, zv_gIc_f, zv_gIc_i, zv_kJ_sI, zv_kR_sI, zv_kI_sJ, zv_kR_sJ, zv_kI_sR, zv_kJ_sR, zv_kJ_cI, zv_kR_cI, zv_kI_cJ, zv_kR_cJ, ne_eq, Nat.reduceEqDiff, Nat.reduceMul, Nat.reduceAdd, not_false_eq_true, not_true_eq_false, false_and, and_false, and_true, true_and, and_self, reduceIte, Nat.one_ne_zero, Nat.zero_ne_one, Nat.zero_add, Nat.mul_zero]; exact g5
  · simp only [zv_S0, zv_SR, f8, fm 22 (by decide) (by decide), fm 23 (by decide) (by decide), fm 24 (by decide) (by decide), fm 25 (by decide) (by decide), fm 26 (by decide) (by decide), fm 37 (by decide) (by decide), fm 38 (by decide) (by decide), fm 39 (by decide) (by decide), fm 40 (by decide) (by decide), fm 41 (by decide) (by decide), gI_sI, zv_gI_f, zv_gI_i, gI_sI, zv_gJ_f, zv_gIc_f, zv_gIc_i, zv_kJ_sI, zv_kR_sI, zv_kI_sJ, zv_kR_sJ, zv_kI_sR, zv_kJ_sR, zv_kJ_cI, zv_kR_cI, zv_kI_cJ, zv_kR_cJ, ne_eq, Nat.reduceEqDiff, Nat.reduceMul, Nat.reduceAdd, not_false_eq_true, not_true_eq_false, false_and, and_false, and_true, true_and, and_self, reduceIte, Nat.one_ne_zero, Nat.zero_ne_one, Nat.zero_add, Nat.mul_zero]
    simp only [Nat.mul_zero, Nat.zero_add] at v2
    exact ⟨c', v1, v2⟩
  · simp only [zv_S1, f8, gI_sI, zv_gI_f, zv_gI_i, gI_sI, zv_gJ_f, zv_gIc_f, zv_gIc_i, zv_kJ_sI, zv_kR_sI, zv_kI_sJ, zv_kR_sJ, zv_kI_sR, zv_kJ_sR, zv_kJ_cI, zv_kR_cI, zv_kI_cJ, zv_kR_cJ, ne_eq, Nat.reduceEqDiff, Nat.reduceMul, Nat.reduceAdd, not_false_eq_true, not_true_eq_false, false_and, and_false, and_true, true_and, and_self, reduceIte, Nat.one_ne_zero, Nat.zero_ne_one, Nat.zero_add, Nat.mul_zero]
    obtain ⟨d, y1, y2⟩ := g2
    simp only [zv_SR, gI_sI, zv_gI_f, zv_gI_i, gI_sI, zv_gJ_f, zv_gIc_f, zv_gIc_i, zv_kJ_sI, zv_kR_sI, zv_kI_sJ, zv_kR_sJ, zv_kI_sR, zv_kJ_sR, zv_kJ_cI, zv_kR_cI, zv_kI_cJ, zv_kR_cJ, ne_eq, Nat.reduceEqDiff, Nat.reduceMul, Nat.reduceAdd, not_false_eq_true, not_true_eq_false, false_and, and_false, and_true, true_and, and_self, reduceIte, Nat.one_ne_zero, Nat.zero_ne_one, Nat.zero_add, Nat.mul_zero]
    exact ⟨d, y1, y2⟩
theorem m_undo {k : Nat} {Sx Sm : St} (hR : Rel k Sx Sm) : ∃ (r : Int32) (Sx' Sm' : St), F_X7_undo Sx  = some (r, Sx') ∧ F_X8_undo Sm  = some (r, Sm') ∧ Rel k Sx' Sm' := by
  have hR0 := hR
  obtain ⟨q, cs, w1, w2, w3, w4, w5, w6, w7, zv_w8, w9, w10, w11, w12⟩ := hR
  have w12' := w12
  obtain ⟨c, u1, -⟩ := w12'
  by_cases hi : gI Sx 7 0 10 = 0
  · have hm : gI Sm 8 0 44 = 0 := by rw [← w7.1]; exact hi
    unfold F_X7_undo F_X8_undo
    rw [if_pos hi, if_pos hm]
    exact ⟨_, _, _, rfl, rfl, hR0⟩
  have hm : ¬ gI Sm 8 0 44 = 0 := by rw [← w7.1]; exact hi
  obtain ⟨M, f1, f2, f3, r1, r2, r3, r4, r5, r6, r7, r8, r9, r10⟩ := zv_cpA_undo (sI (sI (sI (sI (sI (sI (sI (sI (sI (sI Sm 8 0 12 (gI Sm 8 0 45)) 8 0 0 (gI Sm 8 0 46)) 8 0 1 (gI Sm 8 0 47)) 8 0 2 (gI Sm 8 0 48)) 8 0 3 (gI Sm 8 0 49)) 8 0 4 (gI Sm 8 0 50)) 8 0 5 (gI Sm 8 0 51)) 8 0 36 (gI Sm 8 0 52)) 8 0 39 (gI Sm 8 0 53)) 8 0 41 (gI Sm 8 0 54))
  simp only [gI_sI, zv_gI_f, zv_gI_i, gI_sI, zv_gJ_f, zv_gIc_f, zv_gIc_i, zv_kJ_sI, zv_kR_sI, zv_kI_sJ, zv_kR_sJ, zv_kI_sR, zv_kJ_sR, zv_kJ_cI, zv_kR_cI, zv_kI_cJ, zv_kR_cJ, ne_eq, Nat.reduceEqDiff, Nat.reduceMul, Nat.reduceAdd, not_false_eq_true, not_true_eq_false, false_and, and_false, and_true, true_and, and_self, reduceIte, Nat.one_ne_zero, Nat.zero_ne_one, Nat.zero_add, Nat.mul_zero] at r1 r2 r3 r4 r5 r6 r7 r8 r9 r10
  have f8 := f3 8 (by decide) (by decide) (by decide) (by decide) (by decide) (by decide) (by decide) (by decide) (by decide) (by decide)
  obtain ⟨X, g1, g2, g3, g4, g5, g6, g7, g8, g9⟩ := zv_SR_cp (i := 0) (a := 1) (by omega) (kd' := gI M 22 0) (v' := gI M 23 0) (wh' := gI M 24 0) (pl' := gI M 25 0) (rw' := gI M 26 0) (lw' := gI M 37 0) (ln' := gI M 38 0) (sm' := gI M 39 0) (bw' := gI M 40 0) (bc' := gI M 41 0) (cs := cs) w12 (fun r hr => ⟨r1 r hr, r2 r hr, r3 r hr, r4 r hr⟩) r5 r6 r7 r8 r9 r10 w9 w10
  have eM : F_X8_undo Sm = some (gI M 8 0 0, M) := by
    unfold F_X8_undo
    rw [if_neg hm]
    simp only [gI_sI, zv_gI_f, zv_gI_i, gI_sI, zv_gJ_f, zv_gIc_f, zv_gIc_i, zv_kJ_sI, zv_kR_sI, zv_kI_sJ, zv_kR_sJ, zv_kI_sR, zv_kJ_sR, zv_kJ_cI, zv_kR_cI, zv_kI_cJ, zv_kR_cJ, ne_eq, Nat.reduceEqDiff, Nat.reduceMul, Nat.reduceAdd, not_false_eq_true, not_true_eq_false, false_and, and_false, and_true, true_and, and_self, reduceIte, Nat.one_ne_zero, Nat.zero_ne_one, Nat.zero_add, Nat.mul_zero]
    exact f1
  have eX : F_X7_undo Sx = some (gI X 5 0 5, X) := by
    unfold F_X7_undo
    rw [if_neg hi, g1]
    simp only [bnd]
  have eR : gI X 5 0 5 = gI M 8 0 0 := by
    rw [g9, f8]
    simp only [gI_sI, zv_gI_f, zv_gI_i, gI_sI, zv_gJ_f, zv_gIc_f, zv_gIc_i, zv_kJ_sI, zv_kR_sI, zv_kI_sJ, zv_kR_sJ, zv_kI_sR, zv_kJ_sR, zv_kJ_cI, zv_kR_cI, zv_kI_cJ, zv_kR_cJ, ne_eq, Nat.reduceEqDiff, Nat.reduceMul, Nat.reduceAdd, not_false_eq_true, not_true_eq_false, false_and, and_false, and_true, true_and, and_self, reduceIte, Nat.one_ne_zero, Nat.zero_ne_one, Nat.zero_add, Nat.mul_zero]
  refine ⟨_, _, _, eX, by rw [eR]; exact eM, q, cs, ?_⟩
  have fm : ∀ f, f ≠ 8 → (f < 22 ∨ 26 < f) → (f < 37 ∨ 41 < f) → gI M f = gI Sm f := by
    intro f h8 h h'
    rw [f3 f (by omega) (by omega) (by omega) (by omega) (by omega) (by omega) (by omega) (by omega) (by omega) (by omega)]
    simp only [zv_gI_f h8]
  have fj : gJ M = gJ Sm := f2
  have k7 := g6 7 (by omega)
  have k0 := g6 0 (by omega)
  have k1 := g6 1 (by omega)
  have k6 := g6 6 (by omega)
  have k10 := g6 10 (by omega)
  have k16 := g6 16 (by omega)
  have k17 := g6 17 (by omega)
  have k9 := g8 9 rfl
  refine ⟨?_, ?_, ?_, ?_, ?_, ?_, ?_, ?_, ?_, ?_, ?_, ?_⟩
  · simp only [f8, k7, gI_sI, zv_gI_f, zv_gI_i, gI_sI, zv_gJ_f, zv_gIc_f, zv_gIc_i, zv_kJ_sI, zv_kR_sI, zv_kI_sJ, zv_kR_sJ, zv_kI_sR, zv_kJ_sR, zv_kJ_cI, zv_kR_cI, zv_kI_cJ, zv_kR_cJ, ne_eq, Nat.reduceEqDiff, Nat.reduceMul, Nat.reduceAdd, not_false_eq_true, not_true_eq_false, false_and, and_false, and_true, true_and, and_self, reduceIte, Nat.one_ne_zero, Nat.zero_ne_one, Nat.zero_add, Nat.mul_zero]; exact w1
  · simp only [k9, zv_gI_f, zv_gI_i, gI_sI, zv_gJ_f, zv_gIc_f, zv_gIc_i, zv_kJ_sI, zv_kR_sI, zv_kI_sJ, zv_kR_sJ, zv_kI_sR, zv_kJ_sR, zv_kJ_cI, zv_kR_cI, zv_kI_cJ, zv_kR_cJ, ne_eq, Nat.reduceEqDiff, Nat.reduceMul, Nat.reduceAdd, not_false_eq_true, not_true_eq_false, false_and, and_false, and_true, true_and, and_self, reduceIte, Nat.one_ne_zero, Nat.zero_ne_one, Nat.zero_add, Nat.mul_zero]; exact w2
  · simp only [fm 28 (by decide) (by decide) (by decide), fm 29 (by decide) (by decide) (by decide), fm 30 (by decide) (by decide) (by decide), fm 31 (by decide) (by decide) (by decide), fm 32 (by decide) (by decide) (by decide), fm 33 (by decide) (by decide) (by decide), k0, k16, zv_gI_f, zv_gI_i, gI_sI, zv_gJ_f, zv_gIc_f, zv_gIc_i, zv_kJ_sI, zv_kR_sI, zv_kI_sJ, zv_kR_sJ, zv_kI_sR, zv_kJ_sR, zv_kJ_cI, zv_kR_cI, zv_kI_cJ, zv_kR_cJ, ne_eq, Nat.reduceEqDiff, Nat.reduceMul, Nat.reduceAdd, not_false_eq_true, not_true_eq_false, false_and, and_false, and_true, true_and, and_self, reduceIte, Nat.one_ne_zero, Nat.zero_ne_one, Nat.zero_add, Nat.mul_zero]; exact w3
  · simp only [fm 27 (by decide) (by decide) (by decide), f8, k1, k17, gI_sI, zv_gI_f, zv_gI_i, gI_sI, zv_gJ_f, zv_gIc_f, zv_gIc_i, zv_kJ_sI, zv_kR_sI, zv_kI_sJ, zv_kR_sJ, zv_kI_sR, zv_kJ_sR, zv_kJ_cI, zv_kR_cI, zv_kI_cJ, zv_kR_cJ, ne_eq, Nat.reduceEqDiff, Nat.reduceMul, Nat.reduceAdd, not_false_eq_true, not_true_eq_false, false_and, and_false, and_true, true_and, and_self, reduceIte, Nat.one_ne_zero, Nat.zero_ne_one, Nat.zero_add, Nat.mul_zero]; exact w4
  · simp only [fm 52 (by decide) (by decide) (by decide), f8, k7, k10, gI_sI, zv_gI_f, zv_gI_i, gI_sI, zv_gJ_f, zv_gIc_f, zv_gIc_i, zv_kJ_sI, zv_kR_sI, zv_kI_sJ, zv_kR_sJ, zv_kI_sR, zv_kJ_sR, zv_kJ_cI, zv_kR_cI, zv_kI_cJ, zv_kR_cJ, ne_eq, Nat.reduceEqDiff, Nat.reduceMul, Nat.reduceAdd, not_false_eq_true, not_true_eq_false, false_and, and_false, and_true, true_and, and_self, reduceIte, Nat.one_ne_zero, Nat.zero_ne_one, Nat.zero_add, Nat.mul_zero]; exact w5
  · simp only [fm 53 (by decide) (by decide) (by decide), fm 54 (by decide) (by decide) (by decide), k6, g7, fj, zv_gI_f, zv_gI_i, gI_sI, zv_gJ_f, zv_gIc_f, zv_gIc_i, zv_kJ_sI, zv_kR_sI, zv_kI_sJ, zv_kR_sJ, zv_kI_sR, zv_kJ_sR, zv_kJ_cI, zv_kR_cI, zv_kI_cJ, zv_kR_cJ, ne_eq, Nat.reduceEqDiff, Nat.reduceMul, Nat.reduceAdd, not_false_eq_true, not_true_eq_false, false_and, and_false, and_true, true_and, and_self, reduceIte, Nat.one_ne_zero, Nat.zero_ne_one, Nat.zero_add, Nat.mul_zero]; exact w6
  · simp only [f8, k7, gI_sI, zv_gI_f, zv_gI_i, gI_sI, zv_gJ_f, zv_gIc_f, zv_gIc_i, zv_kJ_sI, zv_kR_sI, zv_kI_sJ, zv_kR_sJ, zv_kI_sR, zv_kJ_sR, zv_kJ_cI, zv_kR_cI, zv_kI_cJ, zv_kR_cJ, ne_eq, Nat.reduceEqDiff, Nat.reduceMul, Nat.reduceAdd, not_false_eq_true, not_true_eq_false, false_and, and_false, and_true, true_and, and_self, reduceIte, Nat.one_ne_zero, Nat.zero_ne_one, Nat.zero_add, Nat.mul_zero]; exact w7
  · simp only [fm 35 (by decide) (by decide) (by decide)]; exact zv_w8
  · exact g4
  · exact g5
  · simp only [zv_S0, f8, gI_sI, zv_gI_f, zv_gI_i, gI_sI, zv_gJ_f, zv_gIc_f, zv_gIc_i, zv_kJ_sI, zv_kR_sI, zv_kI_sJ, zv_kR_sJ, zv_kI_sR, zv_kJ_sR, zv_kJ_cI, zv_kR_cI, zv_kI_cJ, zv_kR_cJ, ne_eq, Nat.reduceEqDiff, Nat.reduceMul, Nat.reduceAdd, not_false_eq_true, not_true_eq_false, false_and, and_false, and_true, true_and, and_self, reduceIte, Nat.one_ne_zero, Nat.zero_ne_one, Nat.zero_add, Nat.mul_zero]
    exact g2
  · simp only [zv_S1, f8, fm 42 (by decide) (by decide) (by decide), fm 43 (by decide) (by decide) (by decide), fm 44 (by decide) (by decide) (by decide), fm 45 (by decide) (by decide) (by decide), fm 46 (by decide) (by decide) (by decide), fm 47 (by decide) (by decide) (by decide), fm 48 (by decide) (by decide) (by decide), fm 49 (by decide) (by decide) (by decide), fm 50 (by decide) (by decide) (by decide), fm 51 (by decide) (by decide) (by decide), gI_sI, zv_gI_f, zv_gI_i, gI_sI, zv_gJ_f, zv_gIc_f, zv_gIc_i, zv_kJ_sI, zv_kR_sI, zv_kI_sJ, zv_kR_sJ, zv_kI_sR, zv_kJ_sR, zv_kJ_cI, zv_kR_cI, zv_kI_cJ, zv_kR_cJ, ne_eq, Nat.reduceEqDiff, Nat.reduceMul, Nat.reduceAdd, not_false_eq_true, not_true_eq_false, false_and, and_false, and_true, true_and, and_self, reduceIte, Nat.one_ne_zero, Nat.zero_ne_one, Nat.zero_add, Nat.mul_zero]
    exact g3
